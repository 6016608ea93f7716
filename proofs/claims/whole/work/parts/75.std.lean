/-! layer 2: steady, the program's side -/
def cv (x : Nat) : Int32 := if x = 9 then -1 else nN x
theorem cv_9 {x : Nat} (h : x ≤ 9) : (cv x = -1) = (x = 9) := by
  unfold cv
  by_cases c : x = 9
  · rw [if_pos c]; simp [c]
  · rw [if_neg c, nN_m1 (by omega)]; simp [c]
theorem cv_n {x : Nat} (h : x ≠ 9) : cv x = nN x := if_neg h
theorem rowL_at {N i : Nat} {r : Row} (h : i < N) : (rowL N r).getD i 0 = r i := by
  unfold rowL
  simp [List.getD, h]
def own (V : HV) (l : List Nat) (p : Nat) : Int32 := if l.getD p 0 = p then -1 else likeV V p (l.getD p 0)
def badQ (V : HV) (l : List Nat) (p q : Nat) : Bool := decide (own V l p < likeV V p q) && decide (own V l q < likeV V q p)
abbrev badB (V : HV) (l : List Nat) (p q : Nat) : Prop := badQ V l p q = true
theorem bad_iff {V : HV} {l : List Nat} {p q : Nat} : badB V l p q ↔ (own V l p < likeV V p q ∧ own V l q < likeV V q p) := by
  unfold badB badQ
  rw [Bool.and_eq_true, decide_eq_true_eq, decide_eq_true_eq]
def stQ (V : HV) (N : Nat) (l : List Nat) : Bool := decide (∀ p, p < N → ∀ q, q < N → p < q → ¬ badB V l p q)
def kp (V : HV) (N : Nat) (a : Nat × List Nat) (l : List Nat) : Nat × List Nat := if stQ V N l = true then (a.1 + 1, if a.1 = 0 then l else a.2) else a
theorem kp_cnt {V : HV} {N : Nat} : ∀ (L : List (List Nat)) (a : Nat × List Nat), (L.foldl (kp V N) a).1 ≤ a.1 + L.length := by
  intro L
  induction L with
  | nil => intro a; exact Nat.le_refl _
  | cons l L ih =>
    intro a
    have h := ih (kp V N a l)
    have : (kp V N a l).1 ≤ a.1 + 1 := by
      unfold kp
      split
      · exact Nat.le_refl _
      · omega
    simp only [List.foldl_cons, List.length_cons]
    omega
def StC (σ s : MS) (a : Nat × List Nat) (N : Nat) (r : Row) : Prop := (∀ o, o ≠ 56 → o ≠ 57 → o ≠ 58 → s o = σ o) ∧ s 56 3 = nN a.1 ∧ (0 < a.1 → ∀ i, i < N → s 58 i = nN (a.2.getD i 0)) ∧ (∀ i, i < 8 → s 57 i = cv (r i))
theorem St_mu {σ s : MS} {a : Nat × List Nat} {N p x : Nat} {r : Row} {v : Int32} (h : StC σ s a N r) (hp : p < 8) (hv : v = cv x) : StC σ (mu s 57 p v) a N (ud r p x) := by
  obtain ⟨h1, h2, h3, h4⟩ := h
  refine ⟨fun o o1 o2 o3 => by rw [mu_row o2]; exact h1 o o1 o2 o3, by rw [mu_row (by omega)]; exact h2, fun hc i hi => by rw [mu_row (by omega)]; exact h3 hc i hi, fun i hi => ?_⟩
  unfold ud
  rw [mu_own]
  by_cases c : i = p
  · rw [if_pos c, if_pos c, hv]
  · rw [if_neg c, if_neg c]
    exact h4 i hi
theorem St_ext {σ s : MS} {a : Nat × List Nat} {N : Nat} {r r' : Row} (h : StC σ s a N r) (e : ∀ i, i < 8 → r i = r' i) : StC σ s a N r' := by
  obtain ⟨h1, h2, h3, h4⟩ := h
  exact ⟨h1, h2, h3, fun i hi => by rw [← e i hi]; exact h4 i hi⟩
theorem c_wl {s : MS} {p q : Nat} {l : List Nat} (hp : p < 8) (hq : q < 8) (h : s 57 p = nN (l.getD p 0)) (h8 : l.getD p 0 < 8) : f_X8_wouldLeave (nN p) (nN q) s = some (bI (decide (own (hv s 3) l p < likeV (hv s 3) p q))) := by
  have fin : ∀ v : Int32, J_X8_wouldLeave_28 (nN p) (nN q) v s = some (bI (decide (v < likeV (hv s 3) p q))) := by
    intro v
    simp only [J_X8_wouldLeave_28, J_X8_wouldLeave_47, e_X4_likingOf hp hq, bnd_s]
    by_cases c : v < likeV (hv s 3) p q
    · have c' : ¬ likeV (hv s 3) p q ≤ v := by rw [Int32.not_le]; exact c
      rw [if_neg c', decide_eq_true c]; rfl
    · have c' : likeV (hv s 3) p q ≤ v := by rw [← Int32.not_lt]; exact c
      rw [if_pos c', decide_eq_false c]; rfl
  unfold own
  simp (disch := omega) only [f_X8_wouldLeave, inb_nN, ix_nN, it_t, if_true, h]
  rw [it_eq (by omega) (by omega)]
  by_cases c : l.getD p 0 = p
  · rw [if_pos c, if_pos c, fin]
  · rw [if_neg c, if_neg c, e_X4_likingOf hp h8, bnd_s, fin]
theorem c_k17 {s : MS} {n N p : Nat} {l : List Nat} (hn : 6000 ≤ n) (g : GH s 3 N) (hp : p < N) (h : ∀ i, i < N → s 57 i = nN (l.getD i 0) ∧ l.getD i 0 < 8) : ∃ c, itr (L_X8_keepIfSteady_17 n (nN p) s) n (nN (p + 1)) = some c ∧ ((c = .inl (nN (p + 1)) ∧ ∀ q, q < N → p < q → ¬ badB (hv s 3) l p q) ∨ (c = .inr (0, s) ∧ ∃ q, q < N ∧ p < q ∧ badB (hv s 3) l p q)) := by
  have h8 := g.le8
  have hppl := g.ppl
  refine itr_inv (fun i st => st = nN (p + 1 + i) ∧ ∀ q, q < p + 1 + i → p < q → ¬ badB (hv s 3) l p q) _ (N - (p + 1)) ?_ ?_ n 0 _ (by omega) (by omega) ⟨rfl, fun q h1 h2 => by omega⟩
  · rintro i st hi ⟨rfl, hno⟩
    have w1 := c_wl (s := s) (l := l) (show p < 8 by omega) (show p + 1 + i < 8 by omega) (h p hp).1 (h p hp).2
    have w2 := c_wl (s := s) (l := l) (show p + 1 + i < 8 by omega) (show p < 8 by omega) (h _ (by omega)).1 (h _ (by omega)).2
    have next : ¬ badB (hv s 3) l p (p + 1 + i) → ∃ a', some (Sum.inl (β := Int32 ⊕ (Int32 × MS)) (nN (p + 1 + i) + 1)) = some (.inl a') ∧ a' = nN (p + 1 + (i + 1)) ∧ ∀ q, q < p + 1 + (i + 1) → p < q → ¬ badB (hv s 3) l p q := by
      intro hb
      refine ⟨_, rfl, by rw [nN_s]; rfl, fun q q1 q2 => ?_⟩
      by_cases c : q = p + 1 + i
      · rw [c]; exact hb
      · exact hno q (by omega) q2
    by_cases c1 : own (hv s 3) l p < likeV (hv s 3) p (p + 1 + i)
    · rw [decide_eq_true c1] at w1
      by_cases c2 : own (hv s 3) l (p + 1 + i) < likeV (hv s 3) (p + 1 + i) p
      · rw [decide_eq_true c2] at w2
        right
        refine ⟨.inr (0, s), ?_, Or.inr ⟨rfl, p + 1 + i, by omega, by omega, bad_iff.mpr ⟨c1, c2⟩⟩⟩
        simp (disch := omega) only [L_X8_keepIfSteady_17, hppl, le_f, if_false, w1, w2, bnd_s, bI_t, one_ne0, Option.map_some]
      · rw [decide_eq_false c2] at w2
        left
        simp (disch := omega) only [L_X8_keepIfSteady_17, J_X8_keepIfSteady_47, hppl, le_f, if_false, w1, w2, bnd_s, bI_t, bI_f, one_ne0, if_true]
        exact next (fun hb => c2 (bad_iff.mp hb).2)
    · rw [decide_eq_false c1] at w1
      left
      simp (disch := omega) only [L_X8_keepIfSteady_17, J_X8_keepIfSteady_47, hppl, le_f, if_false, w1, bnd_s, bI_f, if_true]
      exact next (fun hb => c1 (bad_iff.mp hb).1)
  · rintro st ⟨rfl, hno⟩
    refine ⟨.inl (nN (p + 1)), ?_, Or.inl ⟨rfl, fun q q1 q2 => hno q (by omega) q2⟩⟩
    simp (disch := omega) only [L_X8_keepIfSteady_17, hppl, le_t, if_true, Option.map_some, nN_s]
theorem c_keep {σ s : MS} {n N : Nat} {a : Nat × List Nat} {r : Row} (hn : 6000 ≤ n) (g : GH σ 3 N) (hS : StC σ s a N r) (hr : ∀ i, i < N → r i < 8) (ha : a.1 < 2147483647) : ∃ t, f_X8_keepIfSteady n s = some (0, t) ∧ StC σ t (kp (hv σ 3) N a (rowL N r)) N r := by
  have h8 := g.le8
  obtain ⟨s1, s2, s3, s4⟩ := hS
  have ehv : hv s 3 = hv σ 3 := hv_rows (fun k hk => s1 _ (by omega) (by omega) (by omega))
  have g' : GH s 3 N := by unfold GH; rw [ehv]; exact g
  have hppl := g'.ppl
  generalize hl : rowL N r = l
  have hrow : ∀ i, i < N → s 57 i = nN (l.getD i 0) ∧ l.getD i 0 < 8 := by
    intro i hi
    have := hr i hi
    rw [← hl, rowL_at hi, s4 i (by omega), cv_n (by omega)]
    exact ⟨rfl, this⟩
  have key : ∃ c, itr (L_X8_keepIfSteady_2 n s) n 0 = some c ∧ ∃ t, c = (0, t) ∧ StC σ t (kp (hv σ 3) N a l) N r := by
    refine itr_inv (fun i st => st = nN i ∧ ∀ p, p < i → ∀ q, q < N → p < q → ¬ badB (hv s 3) l p q) _ N ?_ ?_ n 0 _ (by omega) (by omega) ⟨rfl, fun p hp => by omega⟩
    · rintro i st hi ⟨rfl, hno⟩
      obtain ⟨c, k1, ⟨rfl, k2⟩ | ⟨rfl, q, q1, q2, q3⟩⟩ := c_k17 hn g' hi hrow
      · left
        refine ⟨nN (i + 1), ?_, rfl, fun p hp => ?_⟩
        · simp (disch := omega) only [L_X8_keepIfSteady_2, hppl, le_f, if_false, nN_s, k1]
        · by_cases c : p = i
          · rw [c]; exact k2
          · exact hno p (by omega)
      · right
        refine ⟨(0, s), ?_, s, rfl, ?_⟩
        · simp (disch := omega) only [L_X8_keepIfSteady_2, hppl, le_f, if_false, nN_s, k1]
        · have e : stQ (hv σ 3) N l = false := by
            unfold stQ
            apply decide_eq_false
            intro h
            rw [← ehv] at h
            exact h i hi q q1 q2 q3
          unfold kp
          rw [if_neg (by rw [e]; decide)]
          exact ⟨s1, s2, s3, s4⟩
    · rintro st ⟨rfl, hno⟩
      have e : stQ (hv σ 3) N l = true := by
        unfold stQ
        apply decide_eq_true
        rw [← ehv]
        exact fun p hp => hno p hp
      have hz : (nN a.1 = 0) = (a.1 = 0) := by rw [l0, nN_eq (by omega) (by omega)]
      unfold kp
      rw [if_pos e]
      by_cases c : a.1 = 0
      · rw [if_pos c]
        refine ⟨(0, mu (mcp s 57 58 8) 56 3 (nN (a.1 + 1))), ?_, _, rfl, fun o o1 o2 o3 => by rw [mu_row o1, mcp_row o3]; exact s1 o o1 o2 o3, by rw [mu_own]; rfl, fun _ i hi => ?_, fun i hi => by rw [mu_row (by omega), mcp_row (by omega)]; exact s4 i hi⟩
        · have e3 : mcp s 57 58 8 56 3 = nN a.1 := by rw [mcp_row (by omega)]; exact s2
          have s2z : s 56 3 = 0 := s2.trans (by rw [c]; rfl)
          simp (disch := omega) only [L_X8_keepIfSteady_2, J_X8_keepIfSteady_84, hppl, le_t, if_true, s2z, ltM_s, e3, nN_s, Option.map_some]
        · rw [mu_row (by omega), mcp_own (by omega)]
          exact (hrow i hi).1
      · rw [if_neg c]
        refine ⟨(0, mu s 56 3 (nN (a.1 + 1))), ?_, _, rfl, fun o o1 o2 o3 => by rw [mu_row o1]; exact s1 o o1 o2 o3, by rw [mu_own]; rfl, fun _ i hi => by rw [mu_row (by omega)]; exact s3 (by omega) i hi, fun i hi => by rw [mu_row (by omega)]; exact s4 i hi⟩
        simp (disch := omega) only [L_X8_keepIfSteady_2, J_X8_keepIfSteady_84, hppl, le_t, if_true, s2, hz, c, if_false, ltM_s, nN_s, Option.map_some]
  obtain ⟨c, k1, t, rfl, k2⟩ := key
  exact ⟨t, k1, k2⟩
theorem gpJ_mono {f : Nat → List Row} : ∀ {k i : Nat}, i < k → (gpJ f i).length + (f i).length ≤ (gpJ f k).length := by
  intro k
  induction k with
  | zero => intro i h; omega
  | succ k ih =>
    intro i h
    have e : (gpJ f (k + 1)).length = (gpJ f k).length + (f k).length := by
      show (gpJ f k ++ f k).length = _
      rw [List.length_append]
    by_cases c : i = k
    · rw [c, e]; exact Nat.le_refl _
    · have := ih (show i < k by omega)
      omega
theorem gpJ_len {f : Nat → List Row} {i k : Nat} (h : i ≤ k) : (gpJ f i).length ≤ (gpJ f k).length := by
  by_cases c : i = k
  · rw [c]; exact Nat.le_refl _
  · have := gpJ_mono (f := f) (show i < k by omega)
    omega
theorem c_gp {σ : MS} {n N : Nat} (hn : 6000 ≤ n) (g : GH σ 3 N) : ∀ k p d al (r : Row) (s : MS) (a : Nat × List Nat), p + k = N → k < d → StC σ s a N r → (∀ i, i < 8 → r i < 8 ∨ r i = 9) → (∀ i, i < p → r i ≠ 9) → a.1 + (gpL k p al r).length < 2147483647 → ∃ t, G_gp n d (nN p) (bI al) s = some (0, t) ∧ StC σ t (((gpL k p al r).map (rowL N)).foldl (kp (hv σ 3) N) a) N r := by
  have h8 := g.le8
  intro k
  induction k with
  | zero =>
    intro p d al r s a hp hd hS hr hr2 ha
    obtain ⟨d', rfl⟩ : ∃ d', d = d' + 1 := ⟨d - 1, by omega⟩
    have e : p = N := by omega
    subst e
    have hppl : s 3 0 = nN p := by rw [hS.1 3 (by omega) (by omega) (by omega)]; exact g.ppl
    obtain ⟨t, k1, k2⟩ := c_keep hn g hS (fun i hi => by have := hr i (by omega); have := hr2 i hi; omega) (by omega)
    refine ⟨t, ?_, k2⟩
    show F_X8_place (G_gp n d') n (nN p) (bI al) s = _
    simp (disch := omega) only [F_X8_place, hppl, lt_f, if_false, k1, bnd_s]
  | succ k ih =>
    intro p d al r s a hp hd hS hr hr2 ha
    obtain ⟨d', rfl⟩ : ∃ d', d = d' + 1 := ⟨d - 1, by omega⟩
    have p8 : p < 8 := by omega
    have ppl : ∀ {s' : MS} {a' : Nat × List Nat} {r' : Row}, StC σ s' a' N r' → s' 3 0 = nN N := fun h => by rw [h.1 3 (by omega) (by omega) (by omega)]; exact g.ppl
    have hrp : s 57 p = cv (r p) := hS.2.2.2 p p8
    have hc9 := cv_9 (x := r p) (by have := hr p p8; omega)
    show ∃ t, F_X8_place (G_gp n d') n (nN p) (bI al) s = some (0, t) ∧ _
    by_cases c : r p = 9
    · have eL : gpL (k + 1) p al r = (if al = true then gpL k (p + 1) false (ud r p p) else []) ++ gpJ (fun i => if r (p + 1 + i) = 9 then gpL k (p + 1) al (ud (ud r p (p + 1 + i)) (p + 1 + i) p) else []) k := by
        show (if r p = 9 then _ else _) = _
        rw [if_pos c]
      rw [eL, List.length_append] at ha
      rw [eL, List.map_append, List.foldl_append]
      generalize hLA : (if al = true then gpL k (p + 1) false (ud r p p) else []) = LA at ha
      generalize hf : (fun i => if r (p + 1 + i) = 9 then gpL k (p + 1) al (ud (ud r p (p + 1 + i)) (p + 1 + i) p) else []) = f at ha
      have lenA := kp_cnt (V := hv σ 3) (N := N) (LA.map (rowL N)) a
      rw [List.length_map] at lenA
      generalize hA : (LA.map (rowL N)).foldl (kp (hv σ 3) N) a = aA at lenA
      have loop : ∀ s1 sx : MS, StC σ s1 aA N r → ∃ t, itr (L_X8_place_65 (G_gp n d') n (nN p) (bI al) sx) n (nN (p + 1), s1) = some (0, t) ∧ StC σ t (((gpJ f k).map (rowL N)).foldl (kp (hv σ 3) N) aA) N r := by
        intro s1 sx hs1
        have key : ∃ c, itr (L_X8_place_65 (G_gp n d') n (nN p) (bI al) sx) n (nN (p + 1), s1) = some c ∧ ∃ t, c = (0, t) ∧ StC σ t (((gpJ f k).map (rowL N)).foldl (kp (hv σ 3) N) aA) N r := by
          refine itr_inv (fun i st => ∃ s', st = (nN (p + 1 + i), s') ∧ StC σ s' (((gpJ f i).map (rowL N)).foldl (kp (hv σ 3) N) aA) N r) _ k ?_ ?_ n 0 _ (by omega) (by omega) ⟨s1, rfl, hs1⟩
          · rintro i st hi ⟨s', rfl, hs'⟩
            left
            have q8 : p + 1 + i < 8 := by omega
            have hN := ppl hs'
            have hrq : s' 57 (p + 1 + i) = cv (r (p + 1 + i)) := hs'.2.2.2 _ q8
            have hq9 := cv_9 (x := r (p + 1 + i)) (by have := hr _ q8; omega)
            have eJ : ((gpJ f (i + 1)).map (rowL N)).foldl (kp (hv σ 3) N) aA = ((f i).map (rowL N)).foldl (kp (hv σ 3) N) (((gpJ f i).map (rowL N)).foldl (kp (hv σ 3) N) aA) := by
              show ((gpJ f i ++ f i).map (rowL N)).foldl (kp (hv σ 3) N) aA = _
              rw [List.map_append, List.foldl_append]
            rw [eJ]
            have lenI := kp_cnt (V := hv σ 3) (N := N) ((gpJ f i).map (rowL N)) aA
            rw [List.length_map] at lenI
            have lenM := gpJ_mono (f := f) hi
            generalize ((gpJ f i).map (rowL N)).foldl (kp (hv σ 3) N) aA = aI at hs' lenI
            by_cases cq : r (p + 1 + i) = 9
            · have ef : f i = gpL k (p + 1) al (ud (ud r p (p + 1 + i)) (p + 1 + i) p) := by
                rw [← hf]
                show (if r (p + 1 + i) = 9 then _ else _) = _
                rw [if_pos cq]
              have h1 := St_mu (p := p) (x := p + 1 + i) (v := nN (p + 1 + i)) hs' p8 (by rw [cv_n (by omega)])
              have h2 := St_mu (p := p + 1 + i) (x := p) (v := nN p) h1 q8 (by rw [cv_n (by omega)])
              obtain ⟨t, k1, k2⟩ := ih (p + 1) d' al (ud (ud r p (p + 1 + i)) (p + 1 + i) p) (mu (mu s' 57 p (nN (p + 1 + i))) 57 (p + 1 + i) (nN p)) aI (by omega) (by omega) h2 (fun x hx => by
                unfold ud
                split
                · omega
                · split
                  · omega
                  · exact hr x hx) (fun x hx => by
                unfold ud
                split
                · omega
                · split
                  · omega
                  · exact hr2 x (by omega)) (by rw [← ef]; omega)
              rw [← ef] at k2
              have h3 := St_mu (p := p) (x := 9) (v := -1) k2 p8 rfl
              have h4 := St_mu (p := p + 1 + i) (x := 9) (v := -1) h3 q8 rfl
              have h5 := St_ext (r' := r) h4 (fun x hx => by
                unfold ud
                by_cases x1 : x = p + 1 + i
                · rw [if_pos x1, x1, cq]
                · rw [if_neg x1]
                  by_cases x2 : x = p
                  · rw [if_pos x2, x2, c]
                  · rw [if_neg x2, if_neg x1, if_neg x2])
              have hrq9 : s' 57 (p + 1 + i) = -1 := by rw [hrq, cq]; rfl
              refine ⟨_, ?_, _, rfl, h5⟩
              simp (disch := omega) only [L_X8_place_65, J_X8_place_122, hN, le_f, if_false, inb_nN, ix_nN, it_t, if_true, hrq9, ltM_s, nN_s, k1, bnd_s, show p + 1 + i + 1 = p + 1 + (i + 1) by omega]
            · have ef : f i = [] := by
                rw [← hf]
                show (if r (p + 1 + i) = 9 then _ else _) = _
                rw [if_neg cq]
              rw [ef]
              refine ⟨_, ?_, s', rfl, hs'⟩
              simp (disch := omega) only [L_X8_place_65, J_X8_place_122, hN, le_f, if_false, inb_nN, ix_nN, it_t, if_true, hrq, hq9, cq, nN_s, show p + 1 + i + 1 = p + 1 + (i + 1) by omega]
          · rintro st ⟨s', rfl, hs'⟩
            have hN := ppl hs'
            refine ⟨(0, s'), ?_, s', rfl, hs'⟩
            simp (disch := omega) only [L_X8_place_65, hN, le_t, if_true, Option.map_some]
        obtain ⟨c, k1, t, rfl, k2⟩ := key
        exact ⟨t, k1, k2⟩
      have hrp9 : s 57 p = -1 := by rw [hrp, c]; rfl
      have hN := ppl hS
      have al0 : (bI al = 0) = (al = false) := by cases al <;> simp [bI_t, bI_f, one_ne0]
      cases al
      · have eLA : LA = [] := by rw [← hLA]; rfl
        rw [eLA] at hA
        have hA' : a = aA := hA
        subst hA'
        obtain ⟨t, k1, k2⟩ := loop s s hS
        refine ⟨t, ?_, k2⟩
        rw [bI_f] at k1 ⊢
        simp (disch := omega) only [F_X8_place, J_X8_place_61, hN, lt_t, if_true, inb_nN, ix_nN, it_t, hrp9, nN_s, k1]
      · have eLA : LA = gpL k (p + 1) false (ud r p p) := by rw [← hLA]; rfl
        have h1 := St_mu (p := p) (x := p) (v := nN p) hS p8 (by rw [cv_n (by omega)])
        obtain ⟨t1, k1, k2⟩ := ih (p + 1) d' false (ud r p p) (mu s 57 p (nN p)) a (by omega) (by omega) h1 (fun x hx => by
          unfold ud
          split
          · omega
          · exact hr x hx) (fun x hx => by
          unfold ud
          split
          · omega
          · exact hr2 x (by omega)) (by rw [← eLA]; omega)
        rw [← eLA, hA] at k2
        have h3 := St_mu (p := p) (x := 9) (v := -1) k2 p8 rfl
        have h5 := St_ext (r' := r) h3 (fun x hx => by
          unfold ud
          by_cases x2 : x = p
          · rw [if_pos x2, x2, c]
          · rw [if_neg x2, if_neg x2])
        obtain ⟨t, k3, k4⟩ := loop _ (mu t1 57 p (-1)) h5
        refine ⟨t, ?_, k4⟩
        rw [bI_f] at k1
        rw [bI_t] at k3 ⊢
        simp (disch := omega) only [F_X8_place, J_X8_place_61, hN, lt_t, if_true, inb_nN, ix_nN, it_t, hrp9, one_ne0, if_false, ltM_s, nN_s, k1, bnd_s, k3]
    · have eL : gpL (k + 1) p al r = gpL k (p + 1) al r := by
        show (if r p = 9 then _ else _) = _
        rw [if_neg c]
      rw [eL] at ha ⊢
      have hN := ppl hS
      obtain ⟨t, k1, k2⟩ := ih (p + 1) d' al r s a (by omega) (by omega) hS hr (fun x hx => by
        by_cases e : x = p
        · rw [e]; exact c
        · exact hr2 x (by omega)) ha
      refine ⟨t, ?_, k2⟩
      simp (disch := omega) only [F_X8_place, hN, lt_t, if_true, inb_nN, ix_nN, it_t, hrp, hc9, c, if_false, nN_s, k1, bnd_s]
theorem LC_len : ∀ N, N < 9 → (LC N).length = wy ((N + N % 2) / 2) := by
  intro N hN
  have h := congrArg List.length (ways_ok N hN)
  simp only [List.length_map, List.length_range] at h
  exact h.symm
theorem wy_le (m : Nat) : wy m ≤ 105 := by
  unfold wy
  repeat (first | split | omega)
theorem c_settle {σ : MS} {n N : Nat} (hn : 6000 ≤ n) (g : GH σ 3 N) : ∃ t, f_X8_settle n σ = some (0, t) ∧ StC σ t ((LC N).foldl (kp (hv σ 3) N) (0, [])) N (fun _ => 9) := by
  have h8 := g.le8
  have key : ∃ c, itr (L_X8_settle_7 n σ) n (0, mu σ 56 3 0) = some c ∧ ∃ t, c = (0, t) ∧ StC σ t ((LC N).foldl (kp (hv σ 3) N) (0, [])) N (fun _ => 9) := by
    refine itr_inv (fun i st => ∃ s', st = (nN i, s') ∧ (∀ o, o ≠ 56 → o ≠ 57 → o ≠ 58 → s' o = σ o) ∧ s' 56 3 = 0 ∧ ∀ x, x < i → s' 57 x = -1) _ 8 ?_ ?_ n 0 _ (by omega) (by omega) ⟨_, rfl, fun o o1 _ _ => mu_row o1, by rw [mu_own]; rfl, fun x hx => by omega⟩
    · rintro i st hi ⟨s', rfl, h1, h2, h3⟩
      left
      refine ⟨_, ?_, mu s' 57 i (-1), rfl, fun o o1 o2 o3 => by rw [mu_row o2]; exact h1 o o1 o2 o3, by rw [mu_row (by omega)]; exact h2, fun x hx => ?_⟩
      · simp (disch := omega) only [L_X8_settle_7, l8, le_f, if_false, inb_nN, ix_nN, it_t, if_true, ltM_s, nN_s]
      · by_cases c : x = i
        · rw [c, mu_own, if_pos rfl]
        · rw [mu_at, if_neg (by omega)]
          exact h3 x (by omega)
    · rintro st ⟨s', rfl, h1, h2, h3⟩
      have hS : StC σ s' (0, []) N (fun _ => 9) := ⟨h1, h2, (fun h => by cases h), fun i hi => h3 i hi⟩
      have hlen : (gpL N 0 (decide (N % 2 = 1)) (fun _ => 9)).length ≤ 105 := by
        have h := LC_len N (by omega)
        unfold LC at h
        rw [List.length_map] at h
        rw [h]
        exact wy_le _
      obtain ⟨t, k1, k2⟩ := c_gp hn g N 0 30 (decide (N % 2 = 1)) (fun _ => 9) s' (0, []) (by omega) (by omega) hS (fun i hi => Or.inr rfl) (fun i hi => by omega) (by show 0 + _ < _; omega)
      have hN : s' 3 0 = nN N := by rw [h1 3 (by omega) (by omega) (by omega)]; exact g.ppl
      have hrem : remI (nN N) 2 = nN (N % 2) := by rw [l2, remI_nN (by omega) (by omega)]
      refine ⟨(0, t), ?_, t, rfl, k2⟩
      have k1' : f_X8_place n 0 (bI (decide (N % 2 = 1))) s' = some (0, t) := k1
      simp (disch := omega) only [L_X8_settle_7, J_X8_settle_46, l8, le_t, if_true, hN, hrem]
      rw [l1, it_eq (by omega) (by omega)]
      by_cases c : N % 2 = 1
      · rw [decide_eq_true c] at k1'
        have k1'' : f_X8_place n 0 (nN 1) s' = some (0, t) := k1'
        rw [if_pos c, k1'']
        rfl
      · rw [decide_eq_false c] at k1'
        have k1'' : f_X8_place n 0 0 s' = some (0, t) := k1'
        rw [if_neg c, k1'']
        rfl
  obtain ⟨c, k1, t, rfl, k2⟩ := key
  refine ⟨t, ?_, k2⟩
  simp only [f_X8_settle, ltM_s, k1]
