/-! layer 2: words and numbers of the tape, the program's -/
def wd (z : Nat) : List Nat := (stB.getD z []).map ix
theorem wd_len : ∀ z, z < 33 → sln z = nN (wd z).length ∧ stL.getD z 0 = (wd z).length ∧ (wd z).length < 60 := by decide +kernel
theorem wd_at : ∀ z, z < 33 → ∀ i, i < (wd z).length → sch z (nN i) = nN ((wd z).getD i 0) ∧ (wd z).getD i 0 < 128 := by decide +kernel
theorem fs_l {z : Nat} (hz : z < 33) : fs_length z = some (nN (wd z).length) := by
  unfold fs_length
  rw [(wd_len z hz).1]
theorem fs_c {z i : Nat} (hz : z < 33) (hi : i < (wd z).length) : fs_charAt z (nN i) = some (nN ((wd z).getD i 0)) := by
  have h1 := wd_len z hz
  unfold fs_charAt
  rw [h1.2.1, inb_nN (by omega) hi, if_pos rfl, (wd_at z hz i hi).1]
/-- which of the words, by its letters -/
def wam (T : Nat → Nat) (a f : Nat) : List Nat → Nat → Nat → Bool → Int32
  | [], nth, p, b => if b = true ∧ p = f then nN nth else -1
  | c :: cs, nth, p, b => if c = 32 then (if b = true ∧ p = f then nN nth else wam T a f cs (nth + 1) a true) else wam T a f cs nth (p + 1) (b && decide (p < f ∧ T p = c))
def mtc (T : Nat → Nat) (f : Nat) (w : List Nat) (p : Nat) : Prop := p + w.length = f ∧ ∀ i, i < w.length → T (p + i) = w.getD i 0
theorem mtc_cons {T : Nat → Nat} {f c p : Nat} {w : List Nat} : mtc T f (c :: w) p ↔ (p < f ∧ T p = c) ∧ mtc T f w (p + 1) := by
  unfold mtc
  simp only [List.length_cons]
  constructor
  · rintro ⟨h1, h2⟩
    refine ⟨⟨by omega, ?_⟩, by omega, fun i hi => ?_⟩
    · have := h2 0 (by omega)
      rw [Nat.add_zero] at this
      rw [this]; rfl
    · have := h2 (i + 1) (by omega)
      rw [show p + 1 + i = p + (i + 1) by omega, this]; rfl
  · rintro ⟨⟨h1, h2⟩, h3, h4⟩
    refine ⟨by omega, fun i hi => ?_⟩
    cases i with
    | zero => rw [Nat.add_zero, h2]; rfl
    | succ i =>
      have := h4 i (by omega)
      rw [show p + (i + 1) = p + 1 + i by omega, this]; rfl
theorem wam_w {T : Nat → Nat} {a f : Nat} {rest : List Nat} : ∀ (w : List Nat) (nth p : Nat) (b : Bool), (∀ c, c ∈ w → c ≠ 32) →
    (b = true ∧ mtc T f w p → wam T a f (w ++ 32 :: rest) nth p b = nN nth) ∧ (¬ (b = true ∧ mtc T f w p) → wam T a f (w ++ 32 :: rest) nth p b = wam T a f rest (nth + 1) a true) := by
  intro w
  induction w with
  | nil =>
    intro nth p b _
    have e : wam T a f ([] ++ 32 :: rest) nth p b = (if b = true ∧ p = f then nN nth else wam T a f rest (nth + 1) a true) := by
      show (if 32 = 32 then _ else _) = _
      rw [if_pos rfl]
    rw [e]
    have m : mtc T f [] p ↔ p = f := by
      unfold mtc
      exact ⟨fun h => h.1, fun h => ⟨h, fun i hi => by cases hi⟩⟩
    rw [m]
    exact ⟨fun h => if_pos h, fun h => if_neg h⟩
  | cons c w ih =>
    intro nth p b hw
    have hc : c ≠ 32 := hw c (List.mem_cons_self ..)
    have e : wam T a f (c :: w ++ 32 :: rest) nth p b = wam T a f (w ++ 32 :: rest) nth (p + 1) (b && decide (p < f ∧ T p = c)) := by
      show (if c = 32 then _ else _) = _
      rw [if_neg hc]
      rfl
    rw [e, mtc_cons]
    obtain ⟨h1, h2⟩ := ih nth (p + 1) (b && decide (p < f ∧ T p = c)) (fun c' h => hw c' (List.mem_cons_of_mem _ h))
    rw [Bool.and_eq_true, decide_eq_true_eq] at h1 h2
    exact ⟨fun h => h1 ⟨⟨h.1, h.2.1⟩, h.2.2⟩, fun h => h2 (fun h' => h ⟨h'.1.1, h'.1.2, h'.2⟩)⟩
theorem wam_l {T : Nat → Nat} {a f : Nat} : ∀ (w : List Nat) (nth p : Nat) (b : Bool), (∀ c, c ∈ w → c ≠ 32) →
    (b = true ∧ mtc T f w p → wam T a f w nth p b = nN nth) ∧ (¬ (b = true ∧ mtc T f w p) → wam T a f w nth p b = -1) := by
  intro w
  induction w with
  | nil =>
    intro nth p b _
    have m : mtc T f [] p ↔ p = f := by
      unfold mtc
      exact ⟨fun h => h.1, fun h => ⟨h, fun i hi => by cases hi⟩⟩
    rw [m]
    exact ⟨fun h => if_pos h, fun h => if_neg h⟩
  | cons c w ih =>
    intro nth p b hw
    have hc : c ≠ 32 := hw c (List.mem_cons_self ..)
    have e : wam T a f (c :: w) nth p b = wam T a f w nth (p + 1) (b && decide (p < f ∧ T p = c)) := by
      show (if c = 32 then _ else _) = _
      rw [if_neg hc]
    rw [e, mtc_cons]
    obtain ⟨h1, h2⟩ := ih nth (p + 1) (b && decide (p < f ∧ T p = c)) (fun c' h => hw c' (List.mem_cons_of_mem _ h))
    rw [Bool.and_eq_true, decide_eq_true_eq] at h1 h2
    exact ⟨fun h => h1 ⟨⟨h.1, h.2.1⟩, h.2.2⟩, fun h => h2 (fun h' => h ⟨h'.1.1, h'.1.2, h'.2⟩)⟩
/-- the word w stands at a -/
def wq (T : Nat → Nat) (L : Nat) (w : List Nat) (a : Nat) : Bool := decide (kdt T L a = 1) && (decide (a + w.length = fnt T L a) && decide (∀ i, i < w.length → T (a + i) = w.getD i 0))
theorem wq_iff {T : Nat → Nat} {L a : Nat} {w : List Nat} : wq T L w a = true ↔ kdt T L a = 1 ∧ mtc T (fnt T L a) w a := by
  unfold wq mtc
  rw [Bool.and_eq_true, Bool.and_eq_true, decide_eq_true_eq, decide_eq_true_eq, decide_eq_true_eq]
def jnW : List (List Nat) → List Nat
  | [] => []
  | [w] => w
  | w :: ws => w ++ 32 :: jnW ws
def WA (T : Nat → Nat) (L a : Nat) : List (List Nat) → Nat → Int32
  | [], _ => -1
  | w :: ws, nth => if wq T L w a = true then nN nth else WA T L a ws (nth + 1)
theorem wam_WA {T : Nat → Nat} {L a : Nat} (h1 : kdt T L a = 1) : ∀ (ws : List (List Nat)) (nth : Nat), ws ≠ [] → (∀ w, w ∈ ws → ∀ c, c ∈ w → c ≠ 32) → wam T a (fnt T L a) (jnW ws) nth a true = WA T L a ws nth := by
  intro ws
  induction ws with
  | nil => intro nth h; exact absurd rfl h
  | cons w ws ih =>
    intro nth _ hw
    have hq : wq T L w a = true ↔ (true = true ∧ mtc T (fnt T L a) w a) := by
      rw [wq_iff]
      exact ⟨fun h => ⟨rfl, h.2⟩, fun h => ⟨h1, h.2⟩⟩
    cases ws with
    | nil =>
      have k := wam_l (T := T) (a := a) (f := fnt T L a) w nth a true (hw w (List.mem_cons_self ..))
      show wam T a (fnt T L a) w nth a true = (if wq T L w a = true then nN nth else -1)
      by_cases c : wq T L w a = true
      · rw [if_pos c]; exact k.1 (hq.mp c)
      · rw [if_neg c]; exact k.2 (fun h => c (hq.mpr h))
    | cons w' ws' =>
      have k := wam_w (T := T) (a := a) (f := fnt T L a) (rest := jnW (w' :: ws')) w nth a true (hw w (List.mem_cons_self ..))
      show wam T a (fnt T L a) (w ++ 32 :: jnW (w' :: ws')) nth a true = (if wq T L w a = true then nN nth else WA T L a (w' :: ws') (nth + 1))
      by_cases c : wq T L w a = true
      · rw [if_pos c]; exact k.1 (hq.mp c)
      · rw [if_neg c, k.2 (fun h => c (hq.mpr h))]
        exact ih (nth + 1) (by simp) (fun w h => hw w (List.mem_cons_of_mem _ h))
theorem WA_none {T : Nat → Nat} {L a : Nat} (h1 : ¬ kdt T L a = 1) : ∀ (ws : List (List Nat)) (nth : Nat), WA T L a ws nth = -1 := by
  intro ws
  induction ws with
  | nil => intro nth; rfl
  | cons w ws ih =>
    intro nth
    show (if wq T L w a = true then nN nth else WA T L a ws (nth + 1)) = -1
    rw [if_neg (fun h => h1 (wq_iff.mp h).1)]
    exact ih _
section
variable {T : Nat → Nat} {L : Nat}
theorem c_among {s : MS} {n a z : Nat} {ws : List (List Nat)} (hn : 6000 ≤ n) (h : CA T L s a) (hz : z < 33) (hws : wd z = jnW ws) (hne : ws ≠ []) (h32 : ∀ w, w ∈ ws → ∀ c, c ∈ w → c ≠ 32) : f_X9_wordAmong n z s = some (WA T L a ws 0) := by
  obtain ⟨⟨j1, j2, j3⟩, k2, k3, k4, k5, k6⟩ := h
  have hk := kdt_le (T := T) (L := L) a
  have hfl := fnt_le (T := T) (L := L) k5
  have e1 : (1 : Int32) = nN 1 := rfl
  have e32 : (32 : Int32) = nN 32 := rfl
  unfold f_X9_wordAmong
  have hkk : (nN (kdt T L a) = 1) = (kdt T L a = 1) := by rw [e1, nN_eq (by omega) (by omega)]
  simp only [k4, hkk]
  by_cases c : kdt T L a = 1
  · rw [if_pos c, ← wam_WA c ws 0 hne h32, ← hws, k2]
    have hlen := (wd_len z hz).2.2
    have loop : ∀ k i nn nth p b, i + k = (wd z).length → k < nn → nth ≤ i → p ≤ a + i → itr (L_X9_wordAmong_23 n z s) nn (nN nth, nN p, bI b, nN i) = some (wam T a (fnt T L a) ((wd z).drop i) nth p b) := by
      intro k
      induction k with
      | zero =>
        intro i nn nth p b hi hnn hnth hp
        obtain ⟨m, rfl⟩ : ∃ m, nn = m + 1 := ⟨nn - 1, by omega⟩
        rw [List.drop_eq_nil_of_le (by omega)]
        refine itr_en ?_
        simp (disch := omega) only [L_X9_wordAmong_23, J_X9_wordAmong_133, J_X9_wordAmong_134, fs_l hz, bnd_s, le_t, if_true, ite_bI, k3, nN_eq]
        show _ = some (Sum.inr (if b = true ∧ p = fnt T L a then nN nth else -1))
        cases b
        · simp only [Bool.false_eq_true, if_false, false_and, Option.map_some]
        · simp only [if_true, true_and]
          by_cases d : p = fnt T L a
          · rw [if_pos d, if_pos d]; rfl
          · rw [if_neg d, if_neg d]; rfl
      | succ k ih =>
        intro i nn nth p b hi hnn hnth hp
        obtain ⟨m, rfl⟩ : ∃ m, nn = m + 1 := ⟨nn - 1, by omega⟩
        have hil : i < (wd z).length := by omega
        obtain ⟨-, hc128⟩ := wd_at z hz i hil
        have hd : (wd z).drop i = (wd z).getD i 0 :: (wd z).drop (i + 1) := by
          rw [List.drop_eq_getElem_cons hil]
          congr 1
          simp [List.getD, List.getElem?_eq_getElem hil]
        rw [hd]
        generalize hcc : (wd z).getD i 0 = cc at hc128
        have hch := fs_c hz hil
        rw [hcc] at hch
        by_cases d32 : cc = 32
        · show _ = some (if cc = 32 then (if b = true ∧ p = fnt T L a then nN nth else wam T a (fnt T L a) ((wd z).drop (i + 1)) (nth + 1) a true) else _)
          rw [if_pos d32]
          by_cases d : b = true ∧ p = fnt T L a
          · rw [if_pos d]
            refine itr_en ?_
            obtain ⟨d1, d2⟩ := d
            subst d1
            simp (disch := omega) only [L_X9_wordAmong_23, fs_l hz, bnd_s, le_f, if_false, hch, e32, nN_eq, d32, if_true, bI_t, one_ne0, k3, d2, Option.map_some]
          · rw [if_neg d, itr_st (a' := (nN (nth + 1), nN a, bI true, nN (i + 1)))]
            · exact ih (i + 1) m (nth + 1) a true (by omega) (by omega) (by omega) (by omega)
            · simp (disch := omega) only [L_X9_wordAmong_23, J_X9_wordAmong_99, J_X9_wordAmong_110, fs_l hz, bnd_s, le_f, if_false, hch, e32, nN_eq, d32, if_true, ite_bI, k3, k2, nN_s]
              cases b
              · rfl
              · simp only [if_true]
                rw [if_neg (fun e => d ⟨rfl, e⟩)]
                rfl
        · show _ = some (if cc = 32 then _ else wam T a (fnt T L a) ((wd z).drop (i + 1)) nth (p + 1) (b && decide (p < fnt T L a ∧ T p = cc)))
          rw [if_neg d32, itr_st (a' := (nN nth, nN (p + 1), bI (b && decide (p < fnt T L a ∧ T p = cc)), nN (i + 1)))]
          · exact ih (i + 1) m nth (p + 1) _ (by omega) (by omega) (by omega) (by omega)
          · simp (disch := omega) only [L_X9_wordAmong_23, J_X9_wordAmong_75, J_X9_wordAmong_76, J_X9_wordAmong_110, fs_l hz, bnd_s, le_f, if_false, hch, e32, nN_eq, d32, ite_bI, k3, nN_le, nN_s]
            cases b
            · simp only [Bool.false_eq_true, if_false, Bool.false_and, bI_f]
            · simp only [if_true, Bool.true_and]
              by_cases d1 : fnt T L a ≤ p
              · rw [if_pos d1, decide_eq_false (by omega)]; rfl
              · rw [if_neg d1]
                obtain ⟨t1, t2⟩ := j3 p (by omega)
                simp (disch := omega) only [inb_nN, ix_nN, it_t, if_true, t2, nN_eq]
                by_cases d2 : T p = cc
                · rw [if_pos d2, decide_eq_true ⟨by omega, d2⟩]; rfl
                · rw [if_neg d2, decide_eq_false (fun h => d2 h.2)]; rfl
    have := loop (wd z).length 0 n 0 a true (by omega) (by omega) (by omega) (by omega)
    rw [List.drop_zero] at this
    exact this
  · rw [if_neg c, WA_none c]
/-- one word -/
theorem c_one {s : MS} {n a z : Nat} (hn : 6000 ≤ n) (h : CA T L s a) (hz : z < 33) (h32 : ∀ c, c ∈ wd z → c ≠ 32) : f_X9_wordAmong n z s = some (if wq T L (wd z) a = true then 0 else -1) := by
  have := c_among (ws := [wd z]) hn h hz rfl (by simp) (fun w hw => by rw [List.mem_singleton] at hw; rw [hw]; exact h32)
  rw [this]
  rfl
theorem c_skipWord {s : MS} {n a z : Nat} (hn : 6000 ≤ n) (h : CA T L s a) (hz : z < 33) (h32 : ∀ c, c ∈ wd z → c ≠ 32) : ∃ t, f_X9_skipWord n z s = some (bI (wq T L (wd z) a), t) ∧ CA T L t (if wq T L (wd z) a = true then nx T L a else a) ∧ frC s t := by
  have h1 := c_one hn h hz h32
  cases e : wq T L (wd z) a
  · rw [e] at h1
    refine ⟨s, ?_, h, fun _ _ => rfl, rfl⟩
    have h1' : f_X9_wordAmong n z s = some (-1) := h1
    have m1 : ((-1 : Int32) = 0) = False := by decide
    simp only [f_X9_skipWord, h1', bnd_s, m1, if_false, bI_f]
  · rw [e] at h1
    have h1' : f_X9_wordAmong n z s = some 0 := h1
    obtain ⟨t, a1, a2, a3⟩ := c_next hn h
    refine ⟨t, ?_, a2, a3⟩
    simp only [f_X9_skipWord, h1', bnd_s, if_true, a1, bI_t]
/-! numbers -/
def dv (T : Nat → Nat) (a : Nat) : Nat → Nat
  | 0 => 0
  | k + 1 => dv T a k * 10 + (T (a + k) - 48)
def nmI (T : Nat → Nat) (L a : Nat) (lo hi : Int32) : Int32 := if kdt T L a = 2 ∧ fnt T L a ≤ a + 3 then (if nN (dv T a (fnt T L a - a)) < lo then -1 else if hi < nN (dv T a (fnt T L a - a)) then -1 else nN (dv T a (fnt T L a - a))) else -1
theorem kd_at {a i : Nat} {k : Nat} (h : kdt T L a = k) (hk : k = 1 ∨ k = 2) (h1 : a ≤ i) (h2 : i < fnt T L a) : i < L ∧ kdt T L i = k := by
  have hal : a < L := by
    have := kdt_0 (T := T) (L := L) (a := a)
    omega
  by_cases c : i = a
  · rw [c]; exact ⟨hal, h⟩
  · unfold fnt at h2
    rw [if_pos hal, if_neg (by omega)] at h2
    have := (sc_is (L := L) (q := fun i => decide (kdt T L i = kdt T L a)) (L - (a + 1)) (a + 1) (Nat.le_refl _)).2.2.2 i (by omega) h2
    exact ⟨this.1, by rw [of_decide_eq_true this.2]; exact h⟩
theorem kd_2 {i : Nat} (h : kdt T L i = 2) : 48 ≤ T i ∧ T i ≤ 57 := by
  unfold kdt at h
  by_cases c1 : i < L
  · rw [if_pos c1] at h
    by_cases c2 : 97 ≤ T i ∧ T i ≤ 122
    · rw [if_pos c2] at h; omega
    · rw [if_neg c2] at h
      by_cases c3 : 48 ≤ T i ∧ T i ≤ 57
      · exact c3
      · rw [if_neg c3] at h; omega
  · rw [if_neg c1] at h; omega
theorem kd_1 {i : Nat} (h : kdt T L i = 1) : 97 ≤ T i ∧ T i ≤ 122 := by
  unfold kdt at h
  by_cases c1 : i < L
  · rw [if_pos c1] at h
    by_cases c2 : 97 ≤ T i ∧ T i ≤ 122
    · exact c2
    · rw [if_neg c2] at h
      by_cases c3 : 48 ≤ T i ∧ T i ≤ 57
      · rw [if_pos c3] at h; omega
      · rw [if_neg c3] at h; omega
  · rw [if_neg c1] at h; omega
theorem dv_lt {a : Nat} (h : kdt T L a = 2) : ∀ k, a + k ≤ fnt T L a → dv T a k < 10 ^ k := by
  intro k
  induction k with
  | zero => intro _; exact Nat.one_pos
  | succ k ih =>
    intro hk
    have h1 := ih (by omega)
    have h2 := kd_2 (kd_at h (Or.inr rfl) (show a ≤ a + k by omega) (by omega)).2
    show dv T a k * 10 + (T (a + k) - 48) < 10 ^ (k + 1)
    rw [Nat.pow_succ]
    omega
theorem dv_999 {a k : Nat} (h : kdt T L a = 2) (h1 : a + k ≤ fnt T L a) (h2 : k ≤ 3) : dv T a k ≤ 999 := by
  have h3 := dv_lt h k h1
  have h4 : 10 ^ k ≤ 10 ^ 3 := Nat.pow_le_pow_right (by omega) h2
  omega
theorem nmI_is (a : Nat) (lo hi : Int32) : nmI T L a lo hi = -1 ∨ ∃ v, nmI T L a lo hi = nN v ∧ v ≤ 999 ∧ kdt T L a = 2 ∧ a < L ∧ ¬ nN v < lo ∧ ¬ hi < nN v := by
  unfold nmI
  by_cases c : kdt T L a = 2 ∧ fnt T L a ≤ a + 3
  · rw [if_pos c]
    have hal : a < L := by
      have := kdt_0 (T := T) (L := L) (a := a)
      omega
    have hf := (fnt_is (T := T) (L := L) (a := a)).1 hal
    have hv := dv_999 (k := fnt T L a - a) c.1 (by omega) (by omega)
    split
    · exact Or.inl rfl
    · split
      · exact Or.inl rfl
      · rename_i c1 c2
        exact Or.inr ⟨_, rfl, hv, c.1, hal, c1, c2⟩
  · rw [if_neg c]; exact Or.inl rfl
theorem c_num {s : MS} {n a : Nat} {lo hi : Int32} (hn : 6000 ≤ n) (h : CA T L s a) : f_X9_number n lo hi s = some (nmI T L a lo hi) := by
  obtain ⟨⟨j1, j2, j3⟩, k2, k3, k4, k5, k6⟩ := h
  have hk := kdt_le (T := T) (L := L) a
  have hfl := fnt_le (T := T) (L := L) k5
  have e2 : (2 : Int32) = nN 2 := rfl
  have e3 : (3 : Int32) = nN 3 := rfl
  have e48 : (48 : Int32) = nN 48 := rfl
  have e10 : (10 : Int32) = nN 10 := rfl
  have hfa : a ≤ fnt T L a := by
    by_cases c : a < L
    · exact Nat.le_of_lt (fnt_is.1 c).1
    · rw [fnt_is.2 (by omega)]; exact Nat.le_refl _
  unfold f_X9_number nmI
  rw [k4, k3, k2, e2, it_eq (by omega) (by omega), nN_sub hfa, e3, it_le (by omega) (by omega)]
  by_cases c : kdt T L a = 2
  · rw [if_pos c]
    by_cases c3 : fnt T L a - a ≤ 3
    · rw [if_pos c3, if_pos ⟨c, by omega⟩]
      generalize hv : (if nN (dv T a (fnt T L a - a)) < lo then -1 else if hi < nN (dv T a (fnt T L a - a)) then -1 else nN (dv T a (fnt T L a - a))) = v
      have key : ∃ r, itr (L_X9_number_31 n lo hi s) n (0, nN a) = some r ∧ r = v := by
        refine itr_inv (fun i st => st = (nN (dv T a i), nN (a + i))) _ (fnt T L a - a) ?_ ?_ n 0 _ (by omega) (by omega) rfl
        · rintro i st hi rfl
          left
          obtain ⟨q1, q2⟩ := kd_at c (Or.inr rfl) (show a ≤ a + i by omega) (show a + i < fnt T L a by omega)
          obtain ⟨t1, t2⟩ := j3 (a + i) q1
          have q3 := kd_2 q2
          refine ⟨_, ?_, rfl⟩
          have ev : nN (dv T a i) * 10 + nN (T (a + i)) - 48 = nN (dv T a (i + 1)) := by
            rw [e10, e48, nN_mul, nN_add, nN_sub (by omega)]
            show _ = nN (dv T a i * 10 + (T (a + i) - 48))
            congr 1
            omega
          simp (disch := omega) only [L_X9_number_31, k3, le_f, if_false, inb_nN, ix_nN, it_t, if_true, t2, ev, nN_s, Nat.add_assoc]
        · rintro st rfl
          refine ⟨v, ?_, rfl⟩
          rw [show a + (fnt T L a - a) = fnt T L a by omega]
          simp (disch := omega) only [L_X9_number_31, J_X9_number_76, J_X9_number_77, k3, le_t, if_true]
          rw [← hv]
          split
          · rfl
          · split
            · rfl
            · rfl
      obtain ⟨r, h1, rfl⟩ := key
      exact h1
    · rw [if_neg c3, if_neg (by omega)]
      rfl
  · rw [if_neg c, if_neg (fun h => c h.1)]
    rfl
theorem c_take {s : MS} {n a : Nat} {lo hi : Int32} (hn : 6000 ≤ n) (h : CA T L s a) : ∃ t, f_X5_takeNumber n lo hi s = some (nmI T L a lo hi, t) ∧ CA T L t (if nmI T L a lo hi = -1 then a else nx T L a) ∧ frC s t := by
  have h1 := c_num (lo := lo) (hi := hi) hn h
  by_cases c : nmI T L a lo hi = -1
  · refine ⟨s, ?_, by rw [if_pos c]; exact h, fun _ _ => rfl, rfl⟩
    simp only [f_X5_takeNumber, J_X5_takeNumber_22, h1, bnd_s, c, if_true]
  · obtain ⟨t, a1, a2, a3⟩ := c_next hn h
    refine ⟨t, ?_, by rw [if_neg c]; exact a2, a3⟩
    simp only [f_X5_takeNumber, J_X5_takeNumber_22, h1, bnd_s, c, if_false, a1]
end
