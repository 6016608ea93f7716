/-! layer 2: the law's text: its lines -/
def upN (f : Nat → Nat) (i v l : Nat) : Nat := if l = i then v else f l
theorem upN_e {f : Nat → Nat} {i v : Nat} : upN f i v i = v := if_pos rfl
theorem upN_n {f : Nat → Nat} {i v l : Nat} (h : l ≠ i) : upN f i v l = f l := if_neg h
def LI (i : Nat) (st kf af : Nat → Nat) (E : List (Nat × Nat)) : Prop := st 0 = 0 ∧ st i = E.length ∧ rngOK E ∧ ∀ l, l < i → st l ≤ st (l + 1) ∧ st (l + 1) ≤ E.length ∧ kf l < 3 ∧ af l ≤ 99 ∧ (st (l + 1) = st l ∨ tyl ((E.drop (st l)).take (st (l + 1) - st l)) [] = some [true])
def CLn (i : Nat) (st kf af : Nat → Nat) (s : MS) : Prop := s 37 0 = nN i ∧ ∀ l, l < i → s 38 l = nN (kf l) ∧ s 39 l = nN (af l) ∧ s 40 l = nN (st (l + 1))
def MLn (i : Nat) (st kf af : Nat → Nat) (m : MS) : Prop := ∀ l, l < i → m 172 (1324 + 4 * l) = nN (kf l) ∧ m 172 (1325 + 4 * l) = nN (af l) ∧ m 172 (1326 + 4 * l) = nN (st l) ∧ m 172 (1327 + 4 * l) = nN (st (l + 1))
def frQ (s t : MS) : Prop := (∀ o, o ≠ 1 → (o < 37 ∨ 41 < o) → t o = s o) ∧ t 1 1 = s 1 1
def frV (m t : MS) : Prop := (∀ o, o ≠ 171 → o ≠ 172 → t o = m o) ∧ (∀ k, k ≠ 10 → k ≠ 12 → k ≠ 13 → k ≠ 16 → t 171 k = m 171 k) ∧ (∀ k, k < 1324 → t 172 k = m 172 k)
theorem frQ_refl (s : MS) : frQ s s := ⟨fun _ _ _ => rfl, rfl⟩
theorem frQ_trans {s t u : MS} (h : frQ s t) (h' : frQ t u) : frQ s u := ⟨fun o a b => (h'.1 o a b).trans (h.1 o a b), h'.2.trans h.2⟩
theorem frQ_L {s t : MS} (h : frL s t) : frQ s t := ⟨fun o a b => h.1 o a (by omega) (by omega), h.2.1⟩
theorem frQ_C {s t : MS} (h : frC s t) : frQ s t := ⟨fun o a _ => h.1 o a, h.2⟩
theorem frV_trans {s t u : MS} (h : frV s t) (h' : frV t u) : frV s u := ⟨fun o o1 o2 => (h'.1 o o1 o2).trans (h.1 o o1 o2), fun k a b c d => (h'.2.1 k a b c d).trans (h.2.1 k a b c d), fun k hk => (h'.2.2 k hk).trans (h.2.2 k hk)⟩
theorem frV_N {s t : MS} (h : frN s t) : frV s t := ⟨h.1, h.2.1, fun k hk => h.2.2 k (by omega)⟩
theorem frV_M {s t : MS} (h : frM s t) : frV s t := frV_N (frN_M h)
theorem frV_mu {s : MS} {k : Nat} {v : Int32} (h : 1324 ≤ k) : frV s (mu s 172 k v) := ⟨fun o _ o2 => mu_row o2, fun k _ _ _ _ => by rw [mu_row (by omega)], fun j hj => by rw [mu_own, if_neg (by omega)]⟩
theorem frV_13 (s : MS) (v : Int32) : frV s (mu s 171 13 v) := frV_N (frN_13 s v)
theorem CLn_L {i : Nat} {st kf af : Nat → Nat} {s t : MS} (h : CLn i st kf af s) (f : frL s t) : CLn i st kf af t := ⟨by rw [f.2.2 0 (by omega)]; exact h.1, fun l hl => by rw [f.1 38 (by omega) (by omega) (by omega), f.1 39 (by omega) (by omega) (by omega), f.1 40 (by omega) (by omega) (by omega)]; exact h.2 l hl⟩
theorem MLn_N {i : Nat} {st kf af : Nat → Nat} {m t : MS} (hi : i ≤ 12) (h : MLn i st kf af m) (f : frN m t) : MLn i st kf af t := by
  intro l hl
  rw [f.2.2 _ (by omega), f.2.2 _ (by omega), f.2.2 _ (by omega), f.2.2 _ (by omega)]
  exact h l hl
theorem MLn_mu {i k : Nat} {st kf af : Nat → Nat} {m : MS} {v : Int32} (h : MLn i st kf af m) (hk : 1324 + 4 * i ≤ k) : MLn i st kf af (mu m 172 k v) := by
  intro l hl
  rw [mu_own, if_neg (by omega), mu_own, if_neg (by omega), mu_own, if_neg (by omega), mu_own, if_neg (by omega)]
  exact h l hl
theorem CM_mu {E : List (Nat × Nat)} {m : MS} {k : Nat} {v : Int32} (h : CM E m) (hk : k < 1372) : CM E (mu m 172 k v) := ⟨by rw [mu_row (by omega)]; exact h.1, fun i hi => by rw [mu_own, if_neg (by omega), mu_own, if_neg (by omega)]; exact h.2 i hi⟩
theorem LI_ext {i kk am : Nat} {st kf af : Nat → Nat} {E G : List (Nat × Nat)} (h : LI i st kf af E) (hk : kk < 3) (ha : am ≤ 99) (hR : rngOK G) (hG : G = [] ∨ tyl G [] = some [true]) : LI (i + 1) (upN st (i + 1) (E ++ G).length) (upN kf i kk) (upN af i am) (E ++ G) := by
  obtain ⟨h0, h1, h2, h3⟩ := h
  have hl : (E ++ G).length = E.length + G.length := List.length_append
  refine ⟨by rw [upN_n (by omega)]; exact h0, upN_e, rngOK_app h2 hR, fun l hl' => ?_⟩
  by_cases c : l = i
  · subst c
    rw [upN_n (show l ≠ l + 1 by omega), upN_e, upN_e, upN_e, h1]
    refine ⟨by omega, Nat.le_refl _, hk, ha, ?_⟩
    rcases hG with e | e
    · left
      rw [e, List.append_nil]
    · right
      have e1 : (E ++ G).drop E.length = G := List.drop_left
      have e2 : (E ++ G).length - E.length = G.length := by omega
      rw [e1, e2, List.take_length]
      exact e
  · obtain ⟨a1, a2, a3, a4, a5⟩ := h3 l (by omega)
    rw [upN_n (show l ≠ i + 1 by omega), upN_n (show l + 1 ≠ i + 1 by omega), upN_n c, upN_n c]
    refine ⟨a1, by omega, a3, a4, ?_⟩
    rcases a5 with e | e
    · exact Or.inl e
    · right
      have e1 : (E ++ G).drop (st l) = E.drop (st l) ++ G := List.drop_append_of_le_length (by omega)
      rw [e1, List.take_append_of_le_length (by rw [List.length_drop]; omega)]
      exact e
theorem k_line {i kk am : Nat} {st kf af : Nat → Nat} {E : List (Nat × Nat)} {s : MS} (hi : i < 12) (hc : CC E s) (hq : CLn i st kf af s) : ∃ t, f_X6_addLine 37 (nN kk) (nN am) s = some (0, t) ∧ CC E t ∧ CLn (i + 1) (upN st (i + 1) E.length) (upN kf i kk) (upN af i am) t ∧ t 1 = s 1 ∧ t 2 = s 2 ∧ frQ s t := by
  obtain ⟨q0, q1⟩ := hq
  obtain ⟨c0, c1⟩ := hc
  have c12 : ¬ 12 ≤ i := by omega
  have e1 : ∀ v, mu s (37 + 1) i v 37 0 = nN i := fun v => by rw [mu_row (by omega)]; exact q0
  have e2 : ∀ v v', mu (mu s (37 + 1) i v) (37 + 2) i v' 37 0 = nN i := fun v v' => by rw [mu_row (by omega)]; exact e1 v
  have e2' : ∀ v v', mu (mu s (37 + 1) i v) (37 + 2) i v' 37 1 = nN E.length := fun v v' => by rw [mu_row (by omega), mu_row (by omega)]; exact c0
  have e3 : ∀ v v' v'', mu (mu (mu s (37 + 1) i v) (37 + 2) i v') (37 + 3) i v'' 37 0 = nN i := fun v v' v'' => by rw [mu_row (by omega)]; exact e2 v v'
  refine ⟨mu (mu (mu (mu s (37 + 1) i (nN kk)) (37 + 2) i (nN am)) (37 + 3) i (nN E.length)) 37 0 (nN (i + 1)), ?_, ⟨?_, ?_⟩, ⟨?_, ?_⟩, ?_, ?_, ⟨?_, ?_⟩⟩
  · simp (disch := omega) only [f_X6_addLine, J_X6_addLine_59, q0, nN_lt0, if_false, l12, nN_le, c12, inb_nN, ix_nN, it_t, if_true, ltM_s, e1, e2, e2', e3, nN_s]
  · rw [mu_own, if_neg (by omega), mu_row (by omega), mu_row (by omega), mu_row (by omega)]; exact c0
  · intro j hj
    rw [mu_row (by omega), mu_row (by omega), mu_row (by omega), mu_row (by omega)]; exact c1 j hj
  · rw [mu_own, if_pos rfl]
  · intro l hl
    have r38 : mu (mu (mu (mu s (37 + 1) i (nN kk)) (37 + 2) i (nN am)) (37 + 3) i (nN E.length)) 37 0 (nN (i + 1)) 38 l = if l = i then nN kk else s 38 l := by
      rw [mu_row (by omega), mu_row (by omega), mu_row (by omega)]
      show mu s (37 + 1) i (nN kk) (37 + 1) l = _
      rw [mu_own]
    have r39 : mu (mu (mu (mu s (37 + 1) i (nN kk)) (37 + 2) i (nN am)) (37 + 3) i (nN E.length)) 37 0 (nN (i + 1)) 39 l = if l = i then nN am else s 39 l := by
      rw [mu_row (by omega), mu_row (by omega)]
      show mu (mu s (37 + 1) i (nN kk)) (37 + 2) i (nN am) (37 + 2) l = _
      rw [mu_own, mu_row (by omega)]
    have r40 : mu (mu (mu (mu s (37 + 1) i (nN kk)) (37 + 2) i (nN am)) (37 + 3) i (nN E.length)) 37 0 (nN (i + 1)) 40 l = if l = i then nN E.length else s 40 l := by
      rw [mu_row (by omega)]
      show mu (mu (mu s (37 + 1) i (nN kk)) (37 + 2) i (nN am)) (37 + 3) i (nN E.length) (37 + 3) l = _
      rw [mu_own, mu_row (by omega), mu_row (by omega)]
    rw [r38, r39, r40]
    by_cases c : l = i
    · rw [if_pos c, if_pos c, if_pos c, c, upN_e, upN_e, upN_e]
      exact ⟨rfl, rfl, rfl⟩
    · rw [if_neg c, if_neg c, if_neg c, upN_n c, upN_n c, upN_n (by omega)]
      exact q1 l (by omega)
  · rw [mu_row (by omega), mu_row (by omega), mu_row (by omega), mu_row (by omega)]
  · rw [mu_row (by omega), mu_row (by omega), mu_row (by omega), mu_row (by omega)]
  · intro o o1 o2
    rw [mu_row (by omega), mu_row (by omega), mu_row (by omega), mu_row (by omega)]
  · rw [mu_row (by omega), mu_row (by omega), mu_row (by omega), mu_row (by omega)]
theorem wd26 : wd 26 = jnW [wd 19, wd 20, wd 21] := by decide +kernel
theorem wd27 : wd 27 = wd 22 := by decide +kernel
theorem n32l : ∀ w, w ∈ [wd 19, wd 20, wd 21] → ∀ c, c ∈ w → c ≠ 32 := by
  have H : ([wd 19, wd 20, wd 21]).all (fun w => w.all (fun c => decide (c ≠ 32))) = true := by decide +kernel
  intro w hw c hc
  exact of_decide_eq_true (List.all_eq_true.mp (List.all_eq_true.mp H w hw) c hc)
def LwR (T : Nat → Nat) (L n a i : Nat) (st kf af : Nat → Nat) (E : List (Nat × Nat)) : Prop := ∃ ok G kk am a', a' ≤ L ∧
  (ok = true → skp T L a' = a' ∧ kk < 3 ∧ am ≤ 99 ∧ rngOK G ∧ (G = [] ∨ tyl G [] = some [true]) ∧ G.length + a ≤ a' ∧ a < a') ∧
  (∀ s, CA T L s a → CC E s → CLn i st kf af s → ∃ t, f_X7_tellsLine n 37 s = some (bI ok, t) ∧ (ok = true → CA T L t a' ∧ CC (E ++ G) t ∧ CLn (i + 1) (upN st (i + 1) (E ++ G).length) (upN kf i kk) (upN af i am) t) ∧ (ok = false → t 1 2 = nN a') ∧ frQ s t) ∧
  (∀ m p, MP T L m p → skp T L p = a → CM E m → MLn i st kf af m → ∃ t p', (f_X12_letters n m).bind (fun q => f_X12_readLawLine n (nN i) q.2) = some (bI ok, t) ∧ (ok = true → MP T L t p' ∧ skp T L p' = a' ∧ CM (E ++ G) t ∧ MLn (i + 1) (upN st (i + 1) (E ++ G).length) (upN kf i kk) (upN af i am) t) ∧ (ok = false → t 171 12 = nN a') ∧ frV m t)
section
variable {T : Nat → Nat} {L : Nat}
theorem MP_172' {m : MS} {p k : Nat} {v : Int32} (h : MP T L m p) : MP T L (mu m 172 k v) p := MP_mu h
/-- behind the kind's word -/
theorem l_law1 {n a i kk : Nat} {st kf af : Nat → Nat} {E : List (Nat × Nat)} (hn : 6000 ≤ n) (hL : L ≤ 400) (ha : a < L) (hi : i < 12) (hkk : kk < 3) (hE : E.length ≤ a) (hst : st i = E.length)
    (hk1 : kdt T L a = 1) (hC : ∀ s, CA T L s a → f_X9_wordAmong n 26 s = some (nN kk))
    (hM : ∀ t : MS, MP T L t (fnt T L a) → t 171 12 = nN a → f_X12_readLawLine n (nN i) t = J_X12_readLawLine_53 n (nN (1324 + 4 * i)) (nN kk) (nN (1324 + 4 * i)) t) : LwR T L n a i st kf af E := by
  have hb := nx_le (T := T) (L := L) (a := a) (by omega)
  have hgt := nx_gt (T := T) ha
  have hl : ltt T L a = fnt T L a := by unfold ltt; rw [if_pos hk1]
  have kkm := nN_m1 (a := kk) (by omega)
  have a1' : nN (1324 + 4 * i) + 1 = nN (1325 + 4 * i) := by rw [nN_s]; congr 1; omega
  have a2' : nN (1324 + 4 * i) + 2 = nN (1326 + 4 * i) := by rw [l2, nN_add]; congr 1; omega
  have a3' : nN (1324 + 4 * i) + 3 = nN (1327 + 4 * i) := by rw [l3, nN_add]; congr 1; omega
  -- the reference up to its number
  have mod : ∀ m p, MP T L m p → skp T L p = a → CM E m → MLn i st kf af m → ∃ t t2, f_X12_letters n m = some (0, t) ∧ f_X12_readLawLine n (nN i) t = J_X12_readLawLine_53 n (nN (1324 + 4 * i)) (nN kk) (nN (1324 + 4 * i)) t ∧ f_X12_number n 0 99 (mu t 172 (1324 + 4 * i) (nN kk)) = some (nmI T L (nx T L a) 0 99, t2) ∧ MP T L t2 (dgt T L (nx T L a)) ∧ t2 171 12 = nN (nx T L a) ∧ CM E t2 ∧ MLn i st kf af t2 ∧ t2 172 (1324 + 4 * i) = nN kk ∧ frV m t2 := by
    intro m p hm hp hcm hmq
    obtain ⟨t, k1, k2, k3, k4⟩ := m_letters hn hm
    rw [hp] at k2 k3
    rw [hl] at k2
    obtain ⟨t2, j1, j2, j3, j4⟩ := m_num (lo := 0) (hi := 99) hn (MP_mu (k := 1324 + 4 * i) (v := nN kk) k2)
    have en : skp T L (fnt T L a) = nx T L a := rfl
    rw [en] at j1 j2 j3
    have hcm2 : CM E (mu t 172 (1324 + 4 * i) (nN kk)) := CM_mu (CM_M hcm k4) (by omega)
    have hmq2 : MLn i st kf af (mu t 172 (1324 + 4 * i) (nN kk)) := MLn_mu (MLn_N (by omega) hmq (frN_M k4)) (by omega)
    refine ⟨t, t2, k1, hM t k2 k3, j1, j2, j3, CM_M hcm2 j4, MLn_N (by omega) hmq2 (frN_M j4), ?_, frV_trans (frV_M k4) (frV_trans (frV_mu (by omega)) (frV_M j4))⟩
    rw [j4.1 172 (by omega), mu_own, if_pos rfl]
  have cls : ∀ s, CA T L s a → CC E s → CLn i st kf af s → ∃ t, f_X9_advance n s = some (0, t) ∧ f_X9_number n 0 99 t = some (nmI T L (nx T L a) 0 99) ∧ CA T L t (nx T L a) ∧ CC E t ∧ CLn i st kf af t ∧ frC s t := by
    intro s hs hc hq
    obtain ⟨t, k1, k2, k3⟩ := c_next hn hs
    exact ⟨t, k1, c_num hn k2, k2, CC_C hc k3, CLn_L hq (frL_C k3), k3⟩
  rcases nmI_is (T := T) (L := L) (nx T L a) 0 99 with h | ⟨am, h, h1, h2, h3, h4, h5⟩
  · refine ⟨false, [], 0, 0, nx T L a, hb, no_c, ?_, ?_⟩
    · intro s hs hc hq
      obtain ⟨t, k1, k2, k3, k4, k5, k6⟩ := cls s hs hc hq
      rw [h] at k2
      refine ⟨t, ?_, no_c, fun _ => k3.2.1, frQ_C k6⟩
      simp only [f_X7_tellsLine, hC s hs, bnd_s, kkm, if_false, k1, k2, if_true, bI_f]
    · intro m p hm hp hcm hmq
      obtain ⟨t, t2, k1, k2, k3, k4, k5, k6, k7, k8, k9⟩ := mod m p hm hp hcm hmq
      rw [h] at k3
      have w1 : mu t 172 (1324 + 4 * i) (nN kk) 172 (1324 + 4 * i) = nN kk := by rw [mu_own, if_pos rfl]
      have w2 : mu t2 172 (1325 + 4 * i) (-1) 172 (1325 + 4 * i) = -1 := by rw [mu_own, if_pos rfl]
      refine ⟨mu t2 172 (1325 + 4 * i) (-1), 0, ?_, no_c, fun _ => by rw [mu_row (by omega)]; exact k5, frV_trans k9 (frV_mu (by omega))⟩
      simp (disch := omega) only [k1, bnd_s, k2, J_X12_readLawLine_53, inb_nN, ix_nN, it_t, if_true, ltM_s, w1, nN_0le, k3, a1', w2, m1_0le, if_false, bI_f]
  · have am99 : am ≤ 99 := by
      have e : (99 : Int32) = nN 99 := rfl
      rw [e, nN_lt (by omega) (by omega)] at h5
      omega
    have amm := nN_m1 (a := am) (by omega)
    have hc1 := nx_le (T := T) hb
    have hgt1 := nx_gt (T := T) h3
    have hdg : dgt T L (nx T L a) = fnt T L (nx T L a) := by unfold dgt; rw [if_pos h2]
    generalize hc1e : nx T L (nx T L a) = c1 at *
    have hsk1 : skp T L c1 = c1 := by rw [← hc1e]; exact nx_sk _
    have cls2 : ∀ s, CA T L s a → CC E s → CLn i st kf af s → ∃ t t2 t3, f_X9_advance n s = some (0, t) ∧ f_X9_number n 0 99 t = some (nN am) ∧ f_X9_advance n t = some (0, t2) ∧ f_X9_skipWord n 27 t2 = some (bI (wq T L (wd 22) c1), t3) ∧ CA T L t3 (if wq T L (wd 22) c1 = true then nx T L c1 else c1) ∧ CC E t3 ∧ CLn i st kf af t3 ∧ frC s t3 := by
      intro s hs hc hq
      obtain ⟨t, k1, k2, k3, k4, k5, k6⟩ := cls s hs hc hq
      rw [h] at k2
      obtain ⟨t2, j1, j2, j3⟩ := c_next hn k3
      rw [hc1e] at j2
      obtain ⟨t3, y1, y2, y3⟩ := c_skipWord (z := 27) hn j2 (by omega) (n32 27 (by omega) (by omega) (by omega) (by omega) (by omega))
      rw [wd27] at y1 y2
      exact ⟨t, t2, t3, k1, k2, j1, y1, y2, CC_C (CC_C k4 j3) y3, CLn_L (CLn_L k5 (frL_C j3)) (frL_C y3), ⟨fun o ho => by rw [y3.1 o ho, j3.1 o ho, k6.1 o ho], by rw [y3.2, j3.2, k6.2]⟩⟩
    have mod2 : ∀ m p, MP T L m p → skp T L p = a → CM E m → MLn i st kf af m → ∃ t t4 t5, f_X12_letters n m = some (0, t) ∧ f_X12_readLawLine n (nN i) t = (f_X12_passes n 22 t4).bind (fun q113 => (if q113.1 = 0 then J_X12_readLawLine_128 n (nN (1324 + 4 * i)) q113.2 else ((f_X12_readCond n q113.2).bind (fun q120 => (if q120.1 = 0 then some ((0 : Int32), q120.2) else J_X12_readLawLine_128 n (nN (1324 + 4 * i)) q120.2))))) ∧ f_X12_passes n 22 t4 = some (bI (wq T L (wd 22) c1), t5) ∧ MP T L t5 (if wq T L (wd 22) c1 = true then fnt T L c1 else c1) ∧ t5 171 13 = nN 0 ∧ CM E t5 ∧ MLn i st kf af t5 ∧ t5 172 (1324 + 4 * i) = nN kk ∧ t5 172 (1325 + 4 * i) = nN am ∧ t5 172 (1326 + 4 * i) = nN E.length ∧ frV m t5 := by
      intro m p hm hp hcm hmq
      obtain ⟨t, t2, k1, k2, k3, k4, k5, k6, k7, k8, k9⟩ := mod m p hm hp hcm hmq
      rw [h] at k3
      rw [hdg] at k4
      have w1 : mu t 172 (1324 + 4 * i) (nN kk) 172 (1324 + 4 * i) = nN kk := by rw [mu_own, if_pos rfl]
      have w2 : mu t2 172 (1325 + 4 * i) (nN am) 172 (1325 + 4 * i) = nN am := by rw [mu_own, if_pos rfl]
      have w3 : mu t2 172 (1325 + 4 * i) (nN am) 171 16 = nN E.length := by rw [mu_row (by omega)]; exact k6.1
      generalize ht4 : mu (mu (mu t2 172 (1325 + 4 * i) (nN am)) 172 (1326 + 4 * i) (nN E.length)) 171 13 0 = t4
      have hm4 : MP T L t4 (fnt T L (nx T L a)) := by rw [← ht4]; exact MP_13 (MP_mu (MP_mu k4))
      have hcm4 : CM E t4 := by rw [← ht4]; exact CM_13 (CM_mu (CM_mu k6 (by omega)) (by omega))
      have hmq4 : MLn i st kf af t4 := by
        have : MLn i st kf af (mu (mu t2 172 (1325 + 4 * i) (nN am)) 172 (1326 + 4 * i) (nN E.length)) := MLn_mu (MLn_mu k7 (by omega)) (by omega)
        rw [← ht4]
        exact MLn_N (by omega) this (frN_13 _ _)
      obtain ⟨t5, y1, y2, y3, y4⟩ := m_passes (z := 22) hn hm4 (by omega) (wd_pos 22 (by omega))
      have en : skp T L (fnt T L (nx T L a)) = c1 := hc1e
      rw [en] at y1 y2 y3
      have r172 : t5 172 = t4 172 := y4.1 172 (by omega)
      refine ⟨t, t4, t5, k1, ?_, y1, y2, ?_, CM_M hcm4 y4, MLn_N (by omega) hmq4 (frN_M y4), ?_, ?_, ?_, ?_⟩
      · rw [k2]
        simp (disch := omega) only [J_X12_readLawLine_53, inb_nN, ix_nN, it_t, if_true, ltM_s, w1, nN_0le, k3, bnd_s, a1', w2, a2', w3, ht4]
      · rw [y4.2 13 (by omega) (by omega), ← ht4, mu_own, if_pos rfl]; rfl
      · rw [r172, ← ht4, mu_row (by omega), mu_own, if_neg (by omega), mu_own, if_neg (by omega)]; exact k8
      · rw [r172, ← ht4, mu_row (by omega), mu_own, if_neg (by omega), mu_own, if_pos rfl]
      · rw [r172, ← ht4, mu_row (by omega), mu_own, if_pos rfl]
      · refine frV_trans k9 (frV_trans (frV_mu (k := 1325 + 4 * i) (v := nN am) (by omega)) (frV_trans (frV_mu (k := 1326 + 4 * i) (v := nN E.length) (by omega)) (frV_trans (t := t4) ?_ (frV_M y4))))
        rw [← ht4]; exact frV_13 _ _
    have fin : ∀ (t : MS) (p : Nat) (G : List (Nat × Nat)), MP T L t p → CM (E ++ G) t → MLn i st kf af t → t 172 (1324 + 4 * i) = nN kk → t 172 (1325 + 4 * i) = nN am → t 172 (1326 + 4 * i) = nN E.length → ∃ u, J_X12_readLawLine_128 n (nN (1324 + 4 * i)) t = some (1, u) ∧ MP T L u p ∧ CM (E ++ G) u ∧ MLn (i + 1) (upN st (i + 1) (E ++ G).length) (upN kf i kk) (upN af i am) u ∧ frV t u := by
      intro t p G hm hcm hmq e1 e2 e3
      refine ⟨mu t 172 (1327 + 4 * i) (nN (E ++ G).length), ?_, MP_mu hm, CM_mu hcm (by omega), ?_, frV_mu (by omega)⟩
      · simp (disch := omega) only [J_X12_readLawLine_128, a3', inb_nN, ix_nN, it_t, if_true, hcm.1, ltM_s]
      · intro l hl
        by_cases c : l = i
        · subst c
          rw [mu_own, if_neg (by omega), mu_own, if_neg (by omega), mu_own, if_neg (by omega), mu_own, if_pos rfl, upN_e, upN_e, upN_e, upN_n (by omega), hst]
          exact ⟨e1, e2, e3, rfl⟩
        · rw [mu_own, if_neg (by omega), mu_own, if_neg (by omega), mu_own, if_neg (by omega), mu_own, if_neg (by omega), upN_n c, upN_n c, upN_n (by omega), upN_n (by omega)]
          exact hmq l (by omega)
    cases hif : wq T L (wd 22) c1
    · refine ⟨true, [], kk, am, c1, hc1, fun _ => ⟨hsk1, hkk, am99, rngOK_0, Or.inl rfl, by show 0 + a ≤ c1; omega, by omega⟩, ?_, ?_⟩
      · intro s hs hc hq
        obtain ⟨t, t2, t3, k1, k2, k3, k4, k5, k6, k7, k8⟩ := cls2 s hs hc hq
        rw [hif] at k4 k5
        rw [if_neg Bool.false_ne_true] at k5
        obtain ⟨u, z1, z2, z3, z4, z5, z6⟩ := k_line (kk := kk) (am := am) hi k6 k7
        refine ⟨u, ?_, fun _ => ⟨CA_same k5 z4 z5, by rw [List.append_nil]; exact z2, by rw [List.append_nil]; exact z3⟩, no_c, frQ_trans (frQ_C k8) z6⟩
        simp only [f_X7_tellsLine, J_X7_tellsLine_72, hC s hs, bnd_s, kkm, if_false, k1, k2, amm, k3, k4, bI_f, if_true, z1, bI_t]
      · intro m p hm hp hcm hmq
        obtain ⟨t, t4, t5, k1, k2, k3, k4, k5, k6, k7, k8, k9, k10, k11⟩ := mod2 m p hm hp hcm hmq
        rw [hif] at k3 k4
        rw [if_neg Bool.false_ne_true] at k4
        obtain ⟨u, z1, z2, z3, z4, z5⟩ := fin t5 c1 [] k4 (by rw [List.append_nil]; exact k6) k7 k8 k9 k10
        refine ⟨u, c1, ?_, fun _ => ⟨z2, hsk1, z3, z4⟩, no_c, frV_trans k11 z5⟩
        rw [k1, bnd_s]
        show f_X12_readLawLine n (nN i) t = _
        rw [k2, k3, bnd_s]
        simp only [bI_f, if_true, z1, bI_t]
    · have hlw := wq_ltt hif
      have hc2 := nx_le (T := T) hc1
      have hgt2 := nx_gt (T := T) hlw.2
      obtain ⟨ok, E', a', i1, i2, i3, i4⟩ := p_condition (T := T) (L := L) (n := n) (a := nx T L c1) (E := E) hn hL hc2 (by omega)
      have cls3 : ∀ s, CA T L s a → CC E s → CLn i st kf af s → ∃ t t2 t3 t4, f_X9_advance n s = some (0, t) ∧ f_X9_number n 0 99 t = some (nN am) ∧ f_X9_advance n t = some (0, t2) ∧ f_X9_skipWord n 27 t2 = some (1, t3) ∧ f_X7_tellsCondition n 37 0 t3 = some (bI ok, t4) ∧ (ok = true → CA T L t4 a' ∧ CC E' t4) ∧ (ok = false → t4 1 2 = nN a') ∧ CLn i st kf af t4 ∧ frQ s t4 := by
        intro s hs hc hq
        obtain ⟨t, t2, t3, k1, k2, k3, k4, k5, k6, k7, k8⟩ := cls2 s hs hc hq
        rw [hif] at k4 k5
        rw [if_pos rfl] at k5
        obtain ⟨t4, w1, w2, w3, w4⟩ := i3 t3 k5 k6
        exact ⟨t, t2, t3, t4, k1, k2, k3, k4, w1, w2, fun h => (w3 h).1, CLn_L k7 w4, frQ_trans (frQ_C k8) (frQ_L w4)⟩
      have mod3 : ∀ m p, MP T L m p → skp T L p = a → CM E m → MLn i st kf af m → ∃ t t4 t5 t6 p6, f_X12_letters n m = some (0, t) ∧ f_X12_readLawLine n (nN i) t = (f_X12_passes n 22 t4).bind (fun q113 => (if q113.1 = 0 then J_X12_readLawLine_128 n (nN (1324 + 4 * i)) q113.2 else ((f_X12_readCond n q113.2).bind (fun q120 => (if q120.1 = 0 then some ((0 : Int32), q120.2) else J_X12_readLawLine_128 n (nN (1324 + 4 * i)) q120.2))))) ∧ f_X12_passes n 22 t4 = some (1, t5) ∧ f_X12_readCond n t5 = some (bI ok, t6) ∧ (ok = true → MP T L t6 p6 ∧ skp T L p6 = a' ∧ CM E' t6) ∧ (ok = false → t6 171 12 = nN a') ∧ MLn i st kf af t6 ∧ t6 172 (1324 + 4 * i) = nN kk ∧ t6 172 (1325 + 4 * i) = nN am ∧ t6 172 (1326 + 4 * i) = nN E.length ∧ frV m t6 := by
        intro m p hm hp hcm hmq
        obtain ⟨t, t4, t5, k1, k2, k3, k4, k5, k6, k7, k8, k9, k10, k11⟩ := mod2 m p hm hp hcm hmq
        rw [hif] at k3 k4
        rw [if_pos rfl] at k4
        obtain ⟨t6, p6, w1, w2, w3, w4⟩ := i4 t5 (fnt T L c1) k4 rfl k6 k5
        exact ⟨t, t4, t5, t6, p6, k1, k2, k3, w1, fun h => ⟨(w2 h).1, (w2 h).2.1, (w2 h).2.2.1⟩, w3, MLn_N (by omega) k7 w4, by rw [w4.2.2 _ (by omega)]; exact k8, by rw [w4.2.2 _ (by omega)]; exact k9, by rw [w4.2.2 _ (by omega)]; exact k10, frV_trans k11 (frV_N w4)⟩
      cases ok
      · refine ⟨false, [], 0, 0, a', i1, no_c, ?_, ?_⟩
        · intro s hs hc hq
          obtain ⟨t, t2, t3, t4, k1, k2, k3, k4, k5, -, k6, -, k7⟩ := cls3 s hs hc hq
          refine ⟨t4, ?_, no_c, k6, k7⟩
          simp only [f_X7_tellsLine, hC s hs, bnd_s, kkm, if_false, k1, k2, amm, k3, k4, one_ne0, k5, bI_f, if_true]
        · intro m p hm hp hcm hmq
          obtain ⟨t, t4, t5, t6, p6, k1, k2, k3, k4, -, k6, -, -, -, -, k7⟩ := mod3 m p hm hp hcm hmq
          refine ⟨t6, 0, ?_, no_c, k6, k7⟩
          rw [k1, bnd_s]
          show f_X12_readLawLine n (nN i) t = _
          rw [k2, k3, bnd_s]
          simp only [one_ne0, if_false, k4, bnd_s, bI_f, if_true]
      · obtain ⟨j1, G, j2, j3, j4, j5, j6⟩ := i2 rfl
        subst j2
        refine ⟨true, G, kk, am, a', i1, fun _ => ⟨j1, hkk, am99, j3, Or.inr (j4 [] (by simp)), by omega, by omega⟩, ?_, ?_⟩
        · intro s hs hc hq
          obtain ⟨t, t2, t3, t4, k1, k2, k3, k4, k5, k6, -, k7, k8⟩ := cls3 s hs hc hq
          obtain ⟨y1, y2⟩ := k6 rfl
          obtain ⟨u, z1, z2, z3, z4, z5, z6⟩ := k_line (kk := kk) (am := am) hi y2 k7
          refine ⟨u, ?_, fun _ => ⟨CA_same y1 z4 z5, z2, z3⟩, no_c, frQ_trans k8 z6⟩
          simp only [f_X7_tellsLine, J_X7_tellsLine_72, hC s hs, bnd_s, kkm, if_false, k1, k2, amm, k3, k4, one_ne0, k5, bI_t, z1]
        · intro m p hm hp hcm hmq
          obtain ⟨t, t4, t5, t6, p6, k1, k2, k3, k4, k5, -, k6, k7, k8, k9, k10⟩ := mod3 m p hm hp hcm hmq
          obtain ⟨y1, y2, y3⟩ := k5 rfl
          obtain ⟨u, z1, z2, z3, z4, z5⟩ := fin t6 p6 G y1 y3 k6 k7 k8 k9
          refine ⟨u, p6, ?_, fun _ => ⟨z2, y2, z3, z4⟩, no_c, frV_trans k10 z5⟩
          rw [k1, bnd_s]
          show f_X12_readLawLine n (nN i) t = _
          rw [k2, k3, bnd_s]
          simp only [one_ne0, if_false, k4, bnd_s, bI_t, z1]
theorem l_law {n a i : Nat} {st kf af : Nat → Nat} {E : List (Nat × Nat)} (hn : 6000 ≤ n) (hL : L ≤ 400) (ha : a ≤ L) (hi : i < 12) (hE : E.length ≤ a) (hst : st i = E.length) : LwR T L n a i st kf af E := by
  have cw : ∀ s, CA T L s a → f_X9_wordAmong n 26 s = some (WA T L a [wd 19, wd 20, wd 21] 0) := fun s hs => c_among hn hs (by omega) wd26 (by simp) n32l
  have ei : (1324 : Int32) + (4 : Int32) * nN i = nN (1324 + 4 * i) := by rw [l4, nN_mul]; exact nN_add 1324 _
  cases q0 : wq T L (wd 19) a
  case true =>
    refine l_law1 (kk := 0) hn hL (wq_ltt q0).2 hi (by omega) hE hst (wq_iff.mp q0).1 (fun s hs => by rw [cw s hs]; simp only [WA_c, q0, if_true]) (fun t h1 h2 => ?_)
    have k5 : ∀ z, z < 33 → f_X12_isWord n z t = some (bI (wq T L (wd z) a)) := fun z hz => m_isWord hn (by rw [(wq_ltt q0).1]; exact h1) h2 ha hz (wd_pos z hz)
    simp only [f_X12_readLawLine, k5 19 (by omega), q0, bnd_s, bI_t, one_ne0, if_false, ei]
    rfl
  case false =>
  cases q1 : wq T L (wd 20) a
  case true =>
    refine l_law1 (kk := 1) hn hL (wq_ltt q1).2 hi (by omega) hE hst (wq_iff.mp q1).1 (fun s hs => by rw [cw s hs]; simp only [WA_c, q0, q1, if_true, Bool.false_eq_true, if_false]) (fun t h1 h2 => ?_)
    have k5 : ∀ z, z < 33 → f_X12_isWord n z t = some (bI (wq T L (wd z) a)) := fun z hz => m_isWord hn (by rw [(wq_ltt q1).1]; exact h1) h2 ha hz (wd_pos z hz)
    simp only [f_X12_readLawLine, k5 19 (by omega), k5 20 (by omega), q0, q1, bnd_s, bI_t, bI_f, one_ne0, if_false, if_true, ei]
    rfl
  case false =>
  cases q2 : wq T L (wd 21) a
  case true =>
    refine l_law1 (kk := 2) hn hL (wq_ltt q2).2 hi (by omega) hE hst (wq_iff.mp q2).1 (fun s hs => by rw [cw s hs]; simp only [WA_c, q0, q1, q2, if_true, Bool.false_eq_true, if_false]) (fun t h1 h2 => ?_)
    have k5 : ∀ z, z < 33 → f_X12_isWord n z t = some (bI (wq T L (wd z) a)) := fun z hz => m_isWord hn (by rw [(wq_ltt q2).1]; exact h1) h2 ha hz (wd_pos z hz)
    simp only [f_X12_readLawLine, k5 19 (by omega), k5 20 (by omega), k5 21 (by omega), q0, q1, q2, bnd_s, bI_t, bI_f, one_ne0, if_false, if_true, ei]
    rfl
  case false =>
    refine ⟨false, [], 0, 0, a, ha, no_c, ?_, ?_⟩
    · intro s hs hc hq
      have c := cw s hs
      simp only [WA_c, WA_n, q0, q1, q2, Bool.false_eq_true, if_false] at c
      refine ⟨s, ?_, no_c, fun _ => hs.2.1, frQ_refl s⟩
      simp only [f_X7_tellsLine, c, bnd_s, if_true, bI_f]
    · intro m p hm hp hcm hmq
      obtain ⟨t, k1, k2, k3, k4⟩ := m_letters hn hm
      rw [hp] at k2 k3
      have k5 : ∀ z, z < 33 → f_X12_isWord n z t = some (bI (wq T L (wd z) a)) := fun z hz => m_isWord hn k2 k3 ha hz (wd_pos z hz)
      have w1 : mu t 172 (1324 + 4 * i) (-1) 172 (1324 + 4 * i) = -1 := by rw [mu_own, if_pos rfl]
      refine ⟨mu t 172 (1324 + 4 * i) (-1), 0, ?_, no_c, fun _ => by rw [mu_row (by omega)]; exact k3, frV_trans (frV_M k4) (frV_mu (by omega))⟩
      have e : f_X12_readLawLine n (nN i) t = J_X12_readLawLine_53 n (nN (1324 + 4 * i)) (-1) (nN (1324 + 4 * i)) t := by
        simp only [f_X12_readLawLine, k5 19 (by omega), k5 20 (by omega), k5 21 (by omega), q0, q1, q2, bI_f, if_true, ei, bnd_s]
      rw [k1, bnd_s]
      show f_X12_readLawLine n (nN i) t = _
      rw [e]
      unfold J_X12_readLawLine_53
      rw [inb_nN (by omega) (by omega), if_pos rfl, ix_nN (by omega), ltM_s, if_pos rfl, w1, if_neg (show ¬ (0 : Int32) ≤ -1 by decide)]
      rfl
end
