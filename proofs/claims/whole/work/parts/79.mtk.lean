/-! layer 2: what is read of the tape: the reference's -/
theorem mu_mu (σ : MS) (o k : Nat) (v w : Int32) : mu (mu σ o k v) o k w = mu σ o k w := by
  funext a j
  rw [mu_at, mu_at, mu_at]
  by_cases c : a = o ∧ j = k
  · rw [if_pos c, if_pos c]
  · rw [if_neg c, if_neg c, if_neg c]
theorem sb_neg {b : Nat} (hb : b < 256) (h : 128 ≤ b) : (sb b).toInt < 0 := by
  have H : ∀ b, b < 256 → 128 ≤ b → (sb b).toInt < 0 := by decide +kernel
  exact H b hb h
theorem sb_lt {b c : Nat} (hb : b < 256) (h : 128 ≤ b) (hc : c < 128) : sb b < nN c := by
  have := sb_neg hb h
  rw [Int32.lt_iff_toInt_lt, nN_toInt (by omega)]
  omega
theorem sb_eq {b c : Nat} (hb : b < 256) (hc : c < 128) : (sb b = nN c) = (b = c) := by
  by_cases h : b < 128
  · rw [sb_8 h, nN_eq (by omega) (by omega)]
  · have h1 := sb_lt hb (by omega) hc
    apply propext
    constructor
    · intro e
      rw [e] at h1
      exact absurd h1 (by rw [Int32.not_lt]; exact Int32.le_refl _)
    · intro e; omega
def MP (T : Nat → Nat) (L : Nat) (s : MS) (p : Nat) : Prop := L ≤ 400 ∧ s 171 11 = nN L ∧ (∀ i, i < L → T i < 256 ∧ s 177 i = sb (T i)) ∧ s 171 10 = nN p ∧ p ≤ L
def frM (s t : MS) : Prop := (∀ o, o ≠ 171 → t o = s o) ∧ (∀ k, k ≠ 10 → k ≠ 12 → t 171 k = s 171 k)
theorem frM_refl (s : MS) : frM s s := ⟨fun _ _ => rfl, fun _ _ _ => rfl⟩
theorem frM_trans {s t u : MS} (h : frM s t) (h' : frM t u) : frM s u := ⟨fun o ho => (h'.1 o ho).trans (h.1 o ho), fun k k1 k2 => (h'.2 k k1 k2).trans (h.2 k k1 k2)⟩
theorem frM_10 (s : MS) (v : Int32) : frM s (mu s 171 10 v) := ⟨fun o ho => mu_row ho, fun k k1 _ => by rw [mu_own, if_neg k1]⟩
theorem frM_12 (s : MS) (v : Int32) : frM s (mu s 171 12 v) := ⟨fun o ho => mu_row ho, fun k _ k1 => by rw [mu_own, if_neg k1]⟩
section
variable {T : Nat → Nat} {L : Nat}
theorem MP_fr {s t : MS} {p q : Nat} (h : MP T L s p) (hf : frM s t) (hq : t 171 10 = nN q) (hl : q ≤ L) : MP T L t q := by
  obtain ⟨h1, h2, h3, h4, h5⟩ := h
  exact ⟨h1, by rw [hf.2 11 (by omega) (by omega)]; exact h2, fun i hi => by rw [hf.1 177 (by omega)]; exact h3 i hi, hq, hl⟩
theorem MP_10 {s : MS} {p q : Nat} (h : MP T L s p) (hl : q ≤ L) : MP T L (mu s 171 10 (nN q)) q := MP_fr h (frM_10 s _) (by rw [mu_own, if_pos rfl]) hl
theorem m_isAt {s : MS} {p lo hi : Nat} (h : MP T L s p) (h1 : hi < 128) (h0 : lo < 128) : f_X12_isAt (nN lo) (nN hi) s = some (bI (decide (p < L ∧ lo ≤ T p ∧ T p ≤ hi))) := by
  obtain ⟨k1, k2, k3, k4, k5⟩ := h
  simp (disch := omega) only [f_X12_isAt, J_X12_isAt_41, J_X12_isAt_42, k2, k4, nN_le]
  by_cases c : L ≤ p
  · rw [if_pos c, decide_eq_false (by omega)]; rfl
  · rw [if_neg c]
    obtain ⟨t1, t2⟩ := k3 p (by omega)
    simp (disch := omega) only [inb_nN, ix_nN, it_t, if_true, t2]
    by_cases d : T p < 128
    · rw [sb_8 d]
      simp (disch := omega) only [nN_lt]
      by_cases d1 : T p < lo
      · rw [if_pos d1, decide_eq_false (by omega)]; rfl
      · rw [if_neg d1]
        by_cases d2 : hi < T p
        · rw [if_pos d2, decide_eq_false (by omega)]; rfl
        · rw [if_neg d2, decide_eq_true (by omega)]; rfl
    · rw [if_pos (sb_lt t1 (by omega) h0), decide_eq_false (by omega)]; rfl
theorem m_blanks {s : MS} {n p : Nat} (hn : 6000 ≤ n) (h : MP T L s p) : ∃ t, f_X12_blanks n s = some (0, t) ∧ MP T L t (skp T L p) ∧ t 171 12 = nN (skp T L p) ∧ frM s t := by
  obtain ⟨k1, k2, k3, k4, k5⟩ := h
  have hsk := skp_is (T := T) (L := L) p
  have ha := hsk.2.1 k5
  have e32 : (32 : Int32) = nN 32 := rfl
  have es : s = mu s 171 10 (nN p) := by rw [← k4, mu_same]
  refine ⟨mu (mu s 171 10 (nN (skp T L p))) 171 12 (nN (skp T L p)), ?_, ?_, by rw [mu_own, if_pos rfl], frM_trans (frM_10 s _) (frM_12 _ _)⟩
  · unfold f_X12_blanks
    have hl : itr (L_X12_blanks_0 n s) n ((fun i => mu s 171 10 (nN i)) p) = some (0, mu (mu s 171 10 (nN (skp T L p))) 171 12 (nN (skp T L p))) := by
      refine itr_scan (q := fun i => decide (T i = 32)) (fun i => mu s 171 10 (nN i)) (L - p) n p (Nat.le_refl _) (by omega) ?_ ?_
      · intro i i1 i2 i3
        have hat := m_isAt (lo := 32) (hi := 32) (MP_10 (q := i) ⟨k1, k2, k3, k4, k5⟩ (by omega)) (by omega) (by omega)
        have t3 := of_decide_eq_true i3
        rw [decide_eq_true (by omega)] at hat
        have e10 : mu s 171 10 (nN i) 171 10 = nN i := by rw [mu_own, if_pos rfl]
        simp only [L_X12_blanks_0, e32, hat, bnd_s, bI_t, one_ne0, if_false, e10, nN_s, ltM_s, mu_mu]
      · have hq := (sc_is (L := L) (q := fun i => decide (T i = 32)) (L - p) p (Nat.le_refl _)).2.2.1
        have ea : sc L (fun i => decide (T i = 32)) p = skp T L p := rfl
        rw [ea] at hq ⊢
        have hat := m_isAt (lo := 32) (hi := 32) (MP_10 (q := skp T L p) ⟨k1, k2, k3, k4, k5⟩ ha) (by omega) (by omega)
        rw [decide_eq_false (fun h => hq ⟨h.1, decide_eq_true (show T (skp T L p) = 32 by omega)⟩)] at hat
        have e10 : mu s 171 10 (nN (skp T L p)) 171 10 = nN (skp T L p) := by rw [mu_own, if_pos rfl]
        simp only [L_X12_blanks_0, e32, hat, bnd_s, bI_f, if_true, e10, ltM_s, Option.map_some]
    have hl' : itr (L_X12_blanks_0 n s) n (mu s 171 10 (nN p)) = some (0, mu (mu s 171 10 (nN (skp T L p))) 171 12 (nN (skp T L p))) := hl
    rw [← es] at hl'
    exact hl'
  · exact MP_fr ⟨k1, k2, k3, k4, k5⟩ (frM_trans (frM_10 s _) (frM_12 _ _)) (by rw [mu_own, if_neg (by omega), mu_own, if_pos rfl]) ha
/-- where the letters, the figures end -/
def ltt (T : Nat → Nat) (L a : Nat) : Nat := if kdt T L a = 1 then fnt T L a else a
def dgt (T : Nat → Nat) (L a : Nat) : Nat := if kdt T L a = 2 then fnt T L a else a
theorem kd_1i {i : Nat} : kdt T L i = 1 ↔ i < L ∧ 97 ≤ T i ∧ T i ≤ 122 := by
  constructor
  · intro h
    refine ⟨?_, kd_1 h⟩
    have := kdt_0 (T := T) (L := L) (a := i)
    omega
  · intro h
    unfold kdt
    rw [if_pos h.1, if_pos h.2]
theorem kd_2i {i : Nat} : kdt T L i = 2 ↔ i < L ∧ 48 ≤ T i ∧ T i ≤ 57 := by
  constructor
  · intro h
    refine ⟨?_, kd_2 h⟩
    have := kdt_0 (T := T) (L := L) (a := i)
    omega
  · intro h
    unfold kdt
    rw [if_pos h.1, if_neg (by omega), if_pos h.2]
theorem ltt_sc (a : Nat) : sc L (fun i => decide (97 ≤ T i ∧ T i ≤ 122)) a = ltt T L a := by
  unfold ltt
  by_cases c : kdt T L a = 1
  · obtain ⟨c1, c2⟩ := kd_1i.mp c
    rw [if_pos c, sc_t c1 (decide_eq_true c2)]
    unfold fnt
    rw [if_pos c1, if_neg (by omega)]
    refine sc_congr (L - (a + 1)) (a + 1) (Nat.le_refl _) (fun i i1 i2 => ?_)
    rw [c]
    exact decide_eq_decide.mpr ⟨fun h => kd_1i.mpr ⟨i2, h⟩, fun h => (kd_1i.mp h).2⟩
  · rw [if_neg c]
    exact sc_f (fun h => c (kd_1i.mpr ⟨h.1, of_decide_eq_true h.2⟩))
theorem dgt_sc (a : Nat) : sc L (fun i => decide (48 ≤ T i ∧ T i ≤ 57)) a = dgt T L a := by
  unfold dgt
  by_cases c : kdt T L a = 2
  · obtain ⟨c1, c2⟩ := kd_2i.mp c
    rw [if_pos c, sc_t c1 (decide_eq_true c2)]
    unfold fnt
    rw [if_pos c1, if_neg (by omega)]
    refine sc_congr (L - (a + 1)) (a + 1) (Nat.le_refl _) (fun i i1 i2 => ?_)
    rw [c]
    exact decide_eq_decide.mpr ⟨fun h => kd_2i.mpr ⟨i2, h⟩, fun h => (kd_2i.mp h).2⟩
  · rw [if_neg c]
    exact sc_f (fun h => c (kd_2i.mpr ⟨h.1, of_decide_eq_true h.2⟩))
theorem ltt_le {a : Nat} (h : a ≤ L) : a ≤ ltt T L a ∧ ltt T L a ≤ L := by
  have := sc_is (L := L) (q := fun i => decide (97 ≤ T i ∧ T i ≤ 122)) (L - a) a (Nat.le_refl _)
  rw [ltt_sc] at this
  exact ⟨this.1, this.2.1 h⟩
theorem dgt_le {a : Nat} (h : a ≤ L) : a ≤ dgt T L a ∧ dgt T L a ≤ L := by
  have := sc_is (L := L) (q := fun i => decide (48 ≤ T i ∧ T i ≤ 57)) (L - a) a (Nat.le_refl _)
  rw [dgt_sc] at this
  exact ⟨this.1, this.2.1 h⟩
theorem m_letters {s : MS} {n p : Nat} (hn : 6000 ≤ n) (h : MP T L s p) : ∃ t, f_X12_letters n s = some (0, t) ∧ MP T L t (ltt T L (skp T L p)) ∧ t 171 12 = nN (skp T L p) ∧ frM s t := by
  obtain ⟨s1, b1, b2, b3, b4⟩ := m_blanks hn h
  generalize ha : skp T L p = a at *
  have hal : a ≤ L := b2.2.2.2.2
  have k400 := b2.1
  have e97 : (97 : Int32) = nN 97 := rfl
  have e122 : (122 : Int32) = nN 122 := rfl
  have es : s1 = mu s1 171 10 (nN a) := by rw [← b2.2.2.2.1, mu_same]
  refine ⟨mu s1 171 10 (nN (ltt T L a)), ?_, MP_10 b2 (ltt_le hal).2, by rw [mu_own, if_neg (by omega)]; exact b3, frM_trans b4 (frM_10 _ _)⟩
  have hl : itr (L_X12_letters_4 n s) n ((fun i => mu s1 171 10 (nN i)) a) = some (0, mu s1 171 10 (nN (ltt T L a))) := by
    refine itr_scan (q := fun i => decide (97 ≤ T i ∧ T i ≤ 122)) (fun i => mu s1 171 10 (nN i)) (L - a) n a (Nat.le_refl _) (by omega) ?_ ?_
    · intro i i1 i2 i3
      have hat := m_isAt (lo := 97) (hi := 122) (MP_10 (q := i) b2 (by omega)) (by omega) (by omega)
      have t3 := of_decide_eq_true i3
      rw [decide_eq_true (by omega)] at hat
      have e10 : mu s1 171 10 (nN i) 171 10 = nN i := by rw [mu_own, if_pos rfl]
      simp only [L_X12_letters_4, e97, e122, hat, bnd_s, bI_t, one_ne0, if_false, e10, nN_s, ltM_s, mu_mu]
    · have hq := (sc_is (L := L) (q := fun i => decide (97 ≤ T i ∧ T i ≤ 122)) (L - a) a (Nat.le_refl _)).2.2.1
      rw [ltt_sc] at hq ⊢
      have hat := m_isAt (lo := 97) (hi := 122) (MP_10 (q := ltt T L a) b2 (ltt_le hal).2) (by omega) (by omega)
      rw [decide_eq_false (fun h => hq ⟨h.1, decide_eq_true h.2⟩)] at hat
      simp only [L_X12_letters_4, e97, e122, hat, bnd_s, bI_f, if_true, Option.map_some]
  have hl' : itr (L_X12_letters_4 n s) n (mu s1 171 10 (nN a)) = some (0, mu s1 171 10 (nN (ltt T L a))) := hl
  rw [← es] at hl'
  simp only [f_X12_letters, b1, bnd_s, hl']
theorem m_isWord {s : MS} {n a z : Nat} (hn : 6000 ≤ n) (h : MP T L s (ltt T L a)) (hb : s 171 12 = nN a) (hal : a ≤ L) (hz : z < 33) (h0 : 0 < (wd z).length) : f_X12_isWord n z s = some (bI (wq T L (wd z) a)) := by
  obtain ⟨k1, k2, k3, k4, k5⟩ := h
  have hl := ltt_le (T := T) hal
  have hlen := (wd_len z hz).2.2
  unfold f_X12_isWord
  rw [fs_l hz, bnd_s, k4, hb, nN_sub hl.1, it_eq (by omega) (by omega)]
  by_cases c : ltt T L a - a = (wd z).length
  · rw [if_pos c]
    have hk : kdt T L a = 1 := by
      unfold ltt at c
      by_cases d : kdt T L a = 1
      · exact d
      · rw [if_neg d] at c; omega
    have hf : ltt T L a = fnt T L a := by unfold ltt; rw [if_pos hk]
    have key : ∃ r, itr (L_X12_isWord_24 n z s) n (1, 0) = some r ∧ r = bI (wq T L (wd z) a) := by
      refine itr_inv (fun i st => ∃ b, st = (bI b, nN i) ∧ (b = true ↔ ∀ j, j < i → T (a + j) = (wd z).getD j 0)) _ (wd z).length ?_ ?_ n 0 _ (by omega) (by omega) ⟨true, rfl, fun _ j hj => by omega, fun _ => rfl⟩
      · rintro i st hi ⟨b, rfl, hbb⟩
        cases b
        · right
          refine ⟨0, ?_, ?_⟩
          · simp only [L_X12_isWord_24, J_X12_isWord_67, bI_f, if_true, true_or, Option.map_some]
          · have : wq T L (wd z) a = false := by
              cases e : wq T L (wd z) a
              · rfl
              · have := hbb.mpr (fun j hj => (wq_iff.mp e).2.2 j (by omega))
                cases this
            rw [this]; rfl
        · left
          have hb' := hbb.mp rfl
          obtain ⟨-, c128⟩ := wd_at z hz i hi
          obtain ⟨t1, t2⟩ := k3 (a + i) (by omega)
          have heq := sb_eq t1 c128
          simp (disch := omega) only [L_X12_isWord_24, J_X12_isWord_60, bI_t, one_ne0, if_false, fs_l hz, bnd_s, le_f, hb, nN_add, inb_nN, ix_nN, it_t, if_true, fs_c hz hi, t2, heq, nN_s]
          by_cases d : T (a + i) = (wd z).getD i 0
          · rw [if_pos d]
            refine ⟨_, rfl, true, rfl, fun _ j hj => ?_, fun _ => rfl⟩
            by_cases e : j = i
            · rw [e]; exact d
            · exact hb' j (by omega)
          · rw [if_neg d]
            refine ⟨_, rfl, false, rfl, ?_⟩
            constructor
            · intro h; cases h
            · intro h; exact absurd (h i (by omega)) d
      · rintro st ⟨b, rfl, hbb⟩
        refine ⟨bI b, ?_, ?_⟩
        · simp (disch := omega) only [L_X12_isWord_24, J_X12_isWord_67, fs_l hz, bnd_s, le_t, if_true, ok_bI, Option.map_some, ite_self]
        · congr 1
          have e : wq T L (wd z) a = true ↔ ∀ j, j < (wd z).length → T (a + j) = (wd z).getD j 0 := by
            rw [wq_iff]
            exact ⟨fun h => h.2.2, fun h => ⟨hk, by omega, h⟩⟩
          cases b
          · cases e2 : wq T L (wd z) a
            · rfl
            · have := hbb.mpr (e.mp e2)
              cases this
          · exact (e.mpr (hbb.mp rfl)).symm
    obtain ⟨r, h1, rfl⟩ := key
    exact h1
  · rw [if_neg c]
    have : wq T L (wd z) a = false := by
      cases e : wq T L (wd z) a
      · rfl
      · have h1 := wq_iff.mp e
        have hf : ltt T L a = fnt T L a := by unfold ltt; rw [if_pos h1.1]
        have := h1.2.1
        omega
    rw [this]
    obtain ⟨m, rfl⟩ : ∃ m, n = m + 1 := ⟨n - 1, by omega⟩
    unfold J_X12_isWord_21
    refine itr_en ?_
    simp only [L_X12_isWord_24, J_X12_isWord_67, if_true, true_or, Option.map_some, bI_f]
theorem wq_ltt {a : Nat} {w : List Nat} (h : wq T L w a = true) : ltt T L a = fnt T L a ∧ a < L := by
  have h1 := (wq_iff.mp h).1
  exact ⟨by unfold ltt; rw [if_pos h1], (kd_1i.mp h1).1⟩
/-- a word that may stand or not -/
theorem m_passes {s : MS} {n p z : Nat} (hn : 6000 ≤ n) (h : MP T L s p) (hz : z < 33) (h0 : 0 < (wd z).length) : ∃ t, f_X12_passes n z s = some (bI (wq T L (wd z) (skp T L p)), t) ∧ MP T L t (if wq T L (wd z) (skp T L p) = true then fnt T L (skp T L p) else skp T L p) ∧ t 171 12 = nN (skp T L p) ∧ frM s t := by
  obtain ⟨s1, b1, b2, b3, b4⟩ := m_letters hn h
  have hal : skp T L p ≤ L := (skp_is p).2.1 h.2.2.2.2
  generalize skp T L p = a at *
  have hw := m_isWord hn b2 b3 hal hz h0
  cases e : wq T L (wd z) a
  · rw [e] at hw
    refine ⟨mu s1 171 10 (nN a), ?_, MP_10 b2 hal, by rw [mu_own, if_neg (by omega)]; exact b3, frM_trans b4 (frM_10 _ _)⟩
    simp only [f_X12_passes, b1, bnd_s, hw, bI_f, if_true, b3, ltM_s]
  · rw [e] at hw
    refine ⟨s1, ?_, ?_, b3, b4⟩
    · simp only [f_X12_passes, b1, bnd_s, hw, bI_t, one_ne0, if_false]
    · rw [if_pos rfl, ← (wq_ltt e).1]; exact b2
theorem m_sign {s : MS} {n p c : Nat} (hn : 6000 ≤ n) (h : MP T L s p) (hc : c < 128) : ∃ t, f_X12_sign n (nN c) s = some (bI (sg T L c (skp T L p)), t) ∧ MP T L t (if sg T L c (skp T L p) = true then skp T L p + 1 else skp T L p) ∧ t 171 12 = nN (skp T L p) ∧ frM s t := by
  obtain ⟨s1, b1, b2, b3, b4⟩ := m_blanks hn h
  have hal : skp T L p ≤ L := (skp_is p).2.1 h.2.2.2.2
  generalize skp T L p = a at *
  have hat := m_isAt (lo := c) (hi := c) b2 hc hc
  have e : decide (a < L ∧ c ≤ T a ∧ T a ≤ c) = sg T L c a := by
    unfold sg
    exact decide_eq_decide.mpr ⟨fun h => ⟨h.1, by omega⟩, fun h => ⟨h.1, by omega, by omega⟩⟩
  rw [e] at hat
  cases e1 : sg T L c a
  · rw [e1] at hat
    refine ⟨s1, ?_, by simp only [Bool.false_eq_true, if_false]; exact b2, b3, b4⟩
    simp only [f_X12_sign, b1, bnd_s, hat, bI_f, if_true]
  · rw [e1] at hat
    have hlt := (of_decide_eq_true e1).1
    refine ⟨mu s1 171 10 (nN (a + 1)), ?_, by rw [if_pos rfl]; exact MP_10 b2 (by omega), by rw [mu_own, if_neg (by omega)]; exact b3, frM_trans b4 (frM_10 _ _)⟩
    simp only [f_X12_sign, b1, bnd_s, hat, bI_t, one_ne0, if_false, b2.2.2.2.1, nN_s, ltM_s]
theorem m_num {s : MS} {n p : Nat} {lo hi : Int32} (hn : 6000 ≤ n) (h : MP T L s p) : ∃ t, f_X12_number n lo hi s = some (nmI T L (skp T L p) lo hi, t) ∧ MP T L t (dgt T L (skp T L p)) ∧ t 171 12 = nN (skp T L p) ∧ frM s t := by
  obtain ⟨s1, b1, b2, b3, b4⟩ := m_blanks hn h
  have hal : skp T L p ≤ L := (skp_is p).2.1 h.2.2.2.2
  generalize skp T L p = a at *
  have e48 : (48 : Int32) = nN 48 := rfl
  have e57 : (57 : Int32) = nN 57 := rfl
  have e10 : (10 : Int32) = nN 10 := rfl
  have e3 : (3 : Int32) = nN 3 := rfl
  have hd := dgt_le (T := T) hal
  have es : s1 = mu s1 171 10 (nN a) := by rw [← b2.2.2.2.1, mu_same]
  have k3 := b2.2.2.1
  have k1 := b2.1
  have key : ∃ r, itr (L_X12_number_6 n lo hi s) n (0, s1) = some r ∧ r = (nmI T L a lo hi, mu s1 171 10 (nN (dgt T L a))) := by
    refine itr_inv (fun i st => st = (nN (dv T a (min i 3)), mu s1 171 10 (nN (a + i)))) _ (dgt T L a - a) ?_ ?_ n 0 _ (by omega) (by omega) (by rw [Nat.add_zero, ← es]; rfl)
    · rintro i st hi rfl
      left
      have hk2 : kdt T L a = 2 := by
        unfold dgt at hi
        by_cases d : kdt T L a = 2
        · exact d
        · rw [if_neg d] at hi; omega
      have hdf : dgt T L a = fnt T L a := by unfold dgt; rw [if_pos hk2]
      obtain ⟨q1, q2⟩ := kd_at hk2 (Or.inr rfl) (show a ≤ a + i by omega) (show a + i < fnt T L a by omega)
      have q3 := kd_2 q2
      obtain ⟨t1, t2⟩ := k3 (a + i) q1
      have hat := m_isAt (lo := 48) (hi := 57) (MP_10 (q := a + i) b2 (by omega)) (by omega) (by omega)
      rw [decide_eq_true ⟨q1, q3⟩] at hat
      have r10 : mu s1 171 10 (nN (a + i)) 171 10 = nN (a + i) := by rw [mu_own, if_pos rfl]
      have r12 : mu s1 171 10 (nN (a + i)) 171 12 = nN a := by rw [mu_own, if_neg (by omega)]; exact b3
      have r177 : mu s1 171 10 (nN (a + i)) 177 (a + i) = nN (T (a + i)) := by rw [mu_row (by omega), t2, sb_8 (by omega)]
      have rsub : nN (a + i) - nN a = nN i := by rw [nN_sub (by omega)]; congr 1; omega
      refine ⟨_, ?_, rfl⟩
      simp (disch := omega) only [L_X12_number_6, J_X12_number_51, e48, e57, hat, bnd_s, bI_t, one_ne0, if_false, r10, r12, rsub, e3, nN_le]
      by_cases c : 3 ≤ i
      · rw [if_pos c, Nat.min_eq_right c, Nat.min_eq_right (by omega)]
        simp only [nN_s, ltM_s, mu_mu, Nat.add_assoc]
      · rw [if_neg c, Nat.min_eq_left (by omega), Nat.min_eq_left (by omega)]
        have ev : nN 10 * nN (dv T a i) + nN (T (a + i)) - nN 48 = nN (dv T a (i + 1)) := by
          rw [nN_mul, nN_add, nN_sub (by omega)]
          show _ = nN (dv T a i * 10 + (T (a + i) - 48))
          congr 1
          omega
        simp (disch := omega) only [inb_nN, ix_nN, it_t, if_true, r177, e10, ev, nN_s, ltM_s, mu_mu, Nat.add_assoc]
    · rintro st rfl
      have ed : a + (dgt T L a - a) = dgt T L a := by omega
      rw [ed]
      have hq := (sc_is (L := L) (q := fun i => decide (48 ≤ T i ∧ T i ≤ 57)) (L - a) a (Nat.le_refl _)).2.2.1
      rw [dgt_sc] at hq
      have hat := m_isAt (lo := 48) (hi := 57) (MP_10 (q := dgt T L a) b2 hd.2) (by omega) (by omega)
      rw [decide_eq_false (fun h => hq ⟨h.1, decide_eq_true h.2⟩)] at hat
      have r10 : mu s1 171 10 (nN (dgt T L a)) 171 10 = nN (dgt T L a) := by rw [mu_own, if_pos rfl]
      have r12 : mu s1 171 10 (nN (dgt T L a)) 171 12 = nN a := by rw [mu_own, if_neg (by omega)]; exact b3
      refine ⟨_, ?_, rfl⟩
      simp (disch := omega) only [L_X12_number_6, J_X12_number_99, J_X12_number_104, e48, e57, hat, bnd_s, bI_f, if_true, r10, r12, nN_eq, nN_sub, e3, nN_lt]
      unfold nmI
      by_cases c : kdt T L a = 2
      · have hal' : a < L := (kd_2i.mp c).1
        have hf := (fnt_is (T := T) (L := L) (a := a)).1 hal'
        have hdf : dgt T L a = fnt T L a := by unfold dgt; rw [if_pos c]
        rw [if_neg (by omega)]
        by_cases c3 : 3 < dgt T L a - a
        · rw [if_pos c3, if_neg (by omega)]; rfl
        · rw [if_neg c3, if_pos (show kdt T L a = 2 ∧ fnt T L a ≤ a + 3 from ⟨c, by omega⟩), Nat.min_eq_left (by omega), hdf]
          by_cases c4 : nN (dv T a (fnt T L a - a)) < lo
          · rw [if_pos c4, if_pos c4]; rfl
          · rw [if_neg c4, if_neg c4]
            by_cases c5 : hi < nN (dv T a (fnt T L a - a))
            · rw [if_pos c5, if_neg (by rw [Int32.not_le]; exact c5)]; rfl
            · rw [if_neg c5, if_pos (by rw [← Int32.not_lt]; exact c5)]; rfl
      · have hdf : dgt T L a = a := by unfold dgt; rw [if_neg c]
        rw [if_pos hdf, if_neg (fun h => c h.1)]; rfl
  obtain ⟨r, h1, rfl⟩ := key
  refine ⟨_, ?_, MP_10 b2 hd.2, by rw [mu_own, if_neg (by omega)]; exact b3, frM_trans b4 (frM_10 _ _)⟩
  simp only [f_X12_number, b1, bnd_s, h1]
theorem nmI_dgt {a : Nat} {lo hi : Int32} (h : nmI T L a lo hi ≠ -1) : dgt T L a = fnt T L a ∧ a < L := by
  rcases nmI_is (T := T) (L := L) a lo hi with h1 | ⟨v, h1, h2, h3, h4, h5⟩
  · exact absurd h1 h
  · exact ⟨by unfold dgt; rw [if_pos h3], h4⟩
end
