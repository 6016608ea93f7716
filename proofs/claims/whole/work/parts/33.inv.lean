/-! layer 2: what always holds between program and reference -/
/-- a house's rows against a row of the reference -/
def LR (R w : Nat → Int32) (f : Nat) : Prop := ∀ ago, ago < f → ago < 60 → ∃ d a b r, d ≤ 9999 ∧ a < 8 ∧ b < 8 ∧ r < 6 ∧ R ((f - 1 - ago) % 60) = nN (512 * d + 64 * a + 8 * b + r) ∧ w (234 + 4 * ago) = nN d ∧ w (235 + 4 * ago) = nN a ∧ w (236 + 4 * ago) = nN b ∧ w (237 + 4 * ago) = nN r
def hvr (H : Nat → Nat → Int32) (k i : Nat) : Int32 := if i < rng k then H k i else 0
def HR (H : Nat → Nat → Int32) (w : Nat → Int32) (B : Nat) : Prop := hvr H = rv w ∧ ∃ N f, GV (rv w) N ∧ w 7 = nN f ∧ f ≤ B ∧ w 8 = nN (min f 60) ∧ LR (H 8) w f
theorem hv_hvr (σ : MS) (h : Nat) : hv σ h = hvr (fun k => σ (h + k)) := rfl
/-- steps of a condition: the program's number of the reference's two -/
def enc (op a : Nat) : Nat := if op ≤ 7 then 1000 + op else if op = 8 then a else if op = 9 then 2003 else if op = 10 then 2004 else if op = 11 then 2005 else if op = 12 then 2000 else if op = 13 then 2001 else 2002
/-- the kinds on the stack (true: a yes or no): one step -/
def ty1 (op : Nat) (ts : List Bool) : Option (List Bool) :=
  if op ≤ 5 ∨ op = 8 then some (false :: ts)
  else if op ≤ 7 then some (true :: ts)
  else match ts with
    | a :: ts' => if op = 12 then (if a = true then some (true :: ts') else none) else (match ts' with
      | b :: ts'' => if op = 9 then (if a = false ∧ b = false then some (false :: ts'') else none) else if op = 10 ∨ op = 11 then (if a = false ∧ b = false then some (true :: ts'') else none) else if op = 13 ∨ op = 14 then (if a = true ∧ b = true then some (true :: ts'') else none) else none
      | [] => none)
    | [] => none
/-- a piece of code from s on, m steps, that takes the kinds ts to ts' and never more than 30 deep -/
def tyc (c : Nat → Nat) : Nat → Nat → List Bool → Option (List Bool)
  | _, 0, ts => some ts
  | s, m + 1, ts => (ty1 (c s) ts).bind (fun ts' => if ts'.length ≤ 30 then tyc c (s + 1) m ts' else none)
def LWR (G : Nat → Nat → Int32) (w : Nat → Int32) : Prop :=
  (G 0 0 = -1 ∧ w 2 = 0) ∨
  ∃ (L : Nat) (st op ar : Nat → Nat), L ≤ 12 ∧ G 0 0 = nN L ∧ w 2 = 1 ∧ w 474 = nN L ∧ st 0 = 0 ∧
    (∀ l, l < L → st l ≤ st (l + 1) ∧ st (l + 1) ≤ 400 ∧ G 3 l = nN (st (l + 1)) ∧ w (477 + 4 * l) = nN (st l) ∧ w (478 + 4 * l) = nN (st (l + 1)) ∧
      (∃ k, k < 3 ∧ G 1 l = nN k ∧ w (475 + 4 * l) = nN k) ∧ (∃ m, m ≤ 99 ∧ G 2 l = nN m ∧ w (476 + 4 * l) = nN m) ∧
      (st (l + 1) = st l ∨ tyc op (st l) (st (l + 1) - st l) [] = some [true])) ∧
    (∀ i, i < st L → op i ≤ 14 ∧ ar i ≤ 999 ∧ G 4 i = nN (enc (op i) (ar i)) ∧ w (523 + 2 * i) = nN (op i) ∧ w (524 + 2 * i) = nN (ar i))
/-- a byte, as the reference keeps it -/
def sb (b : Nat) : Int32 := b2b (nN b)
abbrev rows (σ : MS) (h : Nat) : Nat → Nat → Int32 := fun k => σ (h + k)
def Inv (j : Nat) (σ : MS) : Prop :=
  HR (rows σ 3) (σ 172) (3840 * j) ∧ LWR (rows σ 30) (σ 172) ∧
  ((σ 0 17 = 0 ∧ σ 171 6 = 0) ∨ (σ 0 17 = 1 ∧ σ 171 6 = 1 ∧ HR (rows σ 21) (σ 173) (3840 * j) ∧ LWR (rows σ 44) (σ 173))) ∧
  (∃ a c, a < 12 ∧ c ≤ 12 ∧ σ 0 15 = nN a ∧ σ 0 16 = nN c ∧ σ 171 7 = nN c ∧ ∀ i, i < c → HR (rows σ (63 + 9 * ((a + i) % 12))) (fun k => σ 176 (474 * i + k)) (3840 * j) ∧ σ 176 (474 * i + 2) = σ 172 2) ∧
  (∃ L, L ≤ 400 ∧ σ 1 1 = nN L ∧ σ 171 9 = nN L ∧ ∀ i, i < L → ∃ b, b < 256 ∧ σ 2 i = nN b ∧ σ 177 i = sb b) ∧
  σ 0 18 = σ 171 14
/-- rows that count -/
def es (o : Nat) : Bool := decide (o = 0 ∨ o = 2 ∨ (3 ≤ o ∧ o ≤ 11) ∨ (21 ≤ o ∧ o ≤ 34) ∨ (44 ≤ o ∧ o ≤ 48) ∨ (63 ≤ o ∧ o ≤ 170) ∨ o = 172 ∨ o = 173 ∨ o = 176 ∨ o = 177)
def Sm (σ τ : MS) : Prop := (∀ o, es o = true → τ o = σ o) ∧ τ 1 1 = σ 1 1 ∧ τ 171 6 = σ 171 6 ∧ τ 171 7 = σ 171 7 ∧ τ 171 9 = σ 171 9 ∧ τ 171 14 = σ 171 14
theorem HR_same {H H' : Nat → Nat → Int32} {w w' : Nat → Int32} {B : Nat} (h : HR H w B) (hH : ∀ k, k < 9 → H' k = H k) (hw : ∀ k, k < 474 → w' k = w k) : HR H' w' B := by
  obtain ⟨h1, N, f, h2, h3, h4, h5, h6⟩ := h
  have e1 : hvr H' = hvr H := by
    funext k i
    unfold hvr
    by_cases c : i < rng k
    · rw [if_pos c, if_pos c, hH k]
      apply Classical.byContradiction
      intro hc
      rw [rng_hi (by omega)] at c
      omega
    · rw [if_neg c, if_neg c]
  have e2 : rv w' = rv w := rv_congr (fun j hj => hw j (by omega))
  refine ⟨by rw [e1, e2, h1], N, f, by rw [e2]; exact h2, by rw [hw 7 (by omega)]; exact h3, h4, by rw [hw 8 (by omega)]; exact h5, ?_⟩
  intro ago ha hb
  obtain ⟨d, a, b, r, c1, c2, c3, c4, c5, c6, c7, c8, c9⟩ := h6 ago ha hb
  exact ⟨d, a, b, r, c1, c2, c3, c4, by rw [hH 8 (by omega)]; exact c5, by rw [hw _ (by omega)]; exact c6, by rw [hw _ (by omega)]; exact c7, by rw [hw _ (by omega)]; exact c8, by rw [hw _ (by omega)]; exact c9⟩
theorem HR_mono {H : Nat → Nat → Int32} {w : Nat → Int32} {B B' : Nat} (h : HR H w B) (hB : B ≤ B') : HR H w B' := by
  obtain ⟨h1, N, f, h2, h3, h4, h5, h6⟩ := h
  exact ⟨h1, N, f, h2, h3, by omega, h5, h6⟩
theorem LWR_same {G G' : Nat → Nat → Int32} {w w' : Nat → Int32} (h : LWR G w) (hG : ∀ k, k < 5 → G' k = G k) (hw : ∀ k, k < 1323 → (k = 2 ∨ 474 ≤ k) → w' k = w k) : LWR G' w' := by
  rcases h with ⟨h1, h2⟩ | ⟨L, st, op, ar, h1, h2, h3, h4, h5, h6, h7⟩
  · exact Or.inl ⟨by rw [hG 0 (by omega)]; exact h1, by rw [hw 2 (by omega) (Or.inl rfl)]; exact h2⟩
  · refine Or.inr ⟨L, st, op, ar, h1, by rw [hG 0 (by omega)]; exact h2, by rw [hw 2 (by omega) (Or.inl rfl)]; exact h3, by rw [hw 474 (by omega) (by omega)]; exact h4, h5, ?_, ?_⟩
    · intro l hl
      obtain ⟨a1, a2, a3, a4, a5, ⟨k, b1, b2, b3⟩, ⟨m, c1, c2, c3⟩, a6⟩ := h6 l hl
      exact ⟨a1, a2, by rw [hG 3 (by omega)]; exact a3, by rw [hw _ (by omega) (by omega)]; exact a4, by rw [hw _ (by omega) (by omega)]; exact a5, ⟨k, b1, by rw [hG 1 (by omega)]; exact b2, by rw [hw _ (by omega) (by omega)]; exact b3⟩, ⟨m, c1, by rw [hG 2 (by omega)]; exact c2, by rw [hw _ (by omega) (by omega)]; exact c3⟩, a6⟩
    · intro i hi
      have hst : st L ≤ 400 := by
        cases L with
        | zero => omega
        | succ l => exact (h6 l (by omega)).2.1
      obtain ⟨a1, a2, a3, a4, a5⟩ := h7 i hi
      exact ⟨a1, a2, by rw [hG 4 (by omega)]; exact a3, by rw [hw _ (by omega) (by omega)]; exact a4, by rw [hw _ (by omega) (by omega)]; exact a5⟩
theorem es_t {o : Nat} (h : o = 0 ∨ o = 2 ∨ (3 ≤ o ∧ o ≤ 11) ∨ (21 ≤ o ∧ o ≤ 34) ∨ (44 ≤ o ∧ o ≤ 48) ∨ (63 ≤ o ∧ o ≤ 170) ∨ o = 172 ∨ o = 173 ∨ o = 176 ∨ o = 177) : es o = true := decide_eq_true h
theorem Inv_mono {j j' : Nat} {σ : MS} (h : Inv j σ) (hj : j ≤ j') : Inv j' σ := by
  have hb : 3840 * j ≤ 3840 * j' := by omega
  obtain ⟨h1, h2, h3, ⟨a, c, k1, k2, k3, k4, k5, k6⟩, h5⟩ := h
  refine ⟨HR_mono h1 hb, h2, ?_, ⟨a, c, k1, k2, k3, k4, k5, fun i hi => ⟨HR_mono (k6 i hi).1 hb, (k6 i hi).2⟩⟩, h5⟩
  rcases h3 with h | ⟨p1, p2, p3, p4⟩
  · exact Or.inl h
  · exact Or.inr ⟨p1, p2, HR_mono p3 hb, p4⟩
theorem Inv_same {j : Nat} {σ τ : MS} (h : Inv j σ) (hs : Sm σ τ) : Inv j τ := by
  obtain ⟨s1, s2, s3, s4, s5, s6⟩ := hs
  obtain ⟨h1, h2, h3, ⟨a, c, k1, k2, k3, k4, k5, k6⟩, ⟨L, m1, m2, m3, m4⟩, h6⟩ := h
  have r0 := s1 0 (es_t (by omega))
  have r2 := s1 2 (es_t (by omega))
  have r172 := s1 172 (es_t (by omega))
  have r173 := s1 173 (es_t (by omega))
  have r176 := s1 176 (es_t (by omega))
  have r177 := s1 177 (es_t (by omega))
  refine ⟨?_, ?_, ?_, ⟨a, c, k1, k2, by rw [r0]; exact k3, by rw [r0]; exact k4, by rw [s4]; exact k5, fun i hi => ?_⟩, ⟨L, m1, by rw [s2]; exact m2, by rw [s5]; exact m3, fun i hi => ?_⟩, ?_⟩
  · rw [r172]
    exact HR_same h1 (fun k hk => s1 (3 + k) (es_t (by omega))) (fun _ _ => rfl)
  · rw [r172]
    exact LWR_same h2 (fun k hk => s1 (30 + k) (es_t (by omega))) (fun _ _ _ => rfl)
  · rw [r0, s3, r173]
    rcases h3 with h | ⟨p1, p2, p3, p4⟩
    · exact Or.inl h
    · exact Or.inr ⟨p1, p2, HR_same p3 (fun k hk => s1 (21 + k) (es_t (by omega))) (fun _ _ => rfl), LWR_same p4 (fun k hk => s1 (44 + k) (es_t (by omega))) (fun _ _ _ => rfl)⟩
  · have hm := Nat.mod_lt (a + i) (show 0 < 12 by omega)
    rw [r176, r172]
    exact ⟨HR_same (k6 i hi).1 (fun k hk => s1 (63 + 9 * ((a + i) % 12) + k) (es_t (by omega))) (fun _ _ => rfl), (k6 i hi).2⟩
  · rw [r2, r177]
    exact m4 i hi
  · rw [r0, s6]
    exact h6
theorem Sm_refl (σ : MS) : Sm σ σ := ⟨fun _ _ => rfl, rfl, rfl, rfl, rfl, rfl⟩
theorem Sm_trans {σ τ υ : MS} (h : Sm σ τ) (h' : Sm τ υ) : Sm σ υ := ⟨fun o ho => (h'.1 o ho).trans (h.1 o ho), h'.2.1.trans h.2.1, h'.2.2.1.trans h.2.2.1, h'.2.2.2.1.trans h.2.2.2.1, h'.2.2.2.2.1.trans h.2.2.2.2.1, h'.2.2.2.2.2.trans h.2.2.2.2.2⟩
/-- writing what doesn't count -/
theorem Sm_mu {σ : MS} {o k : Nat} {v : Int32} (ho : es o = false) (h1 : o ≠ 1 ∨ k ≠ 1) (h2 : o ≠ 171 ∨ (k ≠ 6 ∧ k ≠ 7 ∧ k ≠ 9 ∧ k ≠ 14)) : Sm σ (mu σ o k v) := by
  refine ⟨fun o' ho' => mu_row (fun h => by rw [h, ho] at ho'; cases ho'), ?_, ?_, ?_, ?_, ?_⟩ <;> rw [mu_at, if_neg (by omega)]
theorem Sm_thr (σ : MS) (c : Int32) : Sm σ (mu σ 171 0 c) := Sm_mu (by decide) (by omega) (by omega)
theorem Sm_out (σ : MS) (c : Int32) : Sm σ (mu σ 183 0 c) := Sm_mu (by decide) (by omega) (by omega)
/-! what Inv says of the house and the world -/
theorem Inv_v {j : Nat} {σ : MS} (h : Inv j σ) : ∃ N, hv σ 3 = rv (σ 172) ∧ GH σ 3 N ∧ GW σ N := by
  obtain ⟨⟨h1, N, f, h2, -⟩, -⟩ := h
  have e : hv σ 3 = rv (σ 172) := h1
  exact ⟨N, e, by unfold GH; rw [e]; exact h2, h2⟩
/-! calls that throw -/
theorem thn_l {β : Type} (v : Int32) (s : MS) (Z : Int32 → MS → Option β) (Zx : Nat → MS → Option β) : thn (some (.inl v, s)) Z Zx = Z v s := Eq.trans rfl rfl
theorem thn_r {β : Type} (e : Nat) (s : MS) (Z : Int32 → MS → Option β) (Zx : Nat → MS → Option β) : thn (some (.inr e, s)) Z Zx = Zx e s := Eq.trans rfl rfl
theorem e_needPerson {σ : MS} {N : Nat} (g : GH σ 3 N) (x : Int32) : f_X11_needPerson x σ = some (if isP N x = true then .inl 0 else .inr 0, σ) := by
  simp only [f_X11_needPerson, e_X4_has g, bnd_s, ite_bI]
  cases isP N x <;> rfl
theorem e_needTwo {σ : MS} {N : Nat} (g : GH σ 3 N) (x y : Int32) : f_X11_needTwo x y σ = some (if (isP N x && isP N y) = true then (if x = y then .inr 1 else .inl 0) else .inr 0, σ) := by
  simp only [f_X11_needTwo, e_needPerson g]
  cases isP N x
  · simp only [Bool.false_eq_true, if_false, thn_r, Bool.false_and]
  · cases hy : isP N y
    · simp only [Bool.false_eq_true, if_false, if_true, thn_r, thn_l, Bool.and_false, e_needPerson g, hy]
    · simp only [if_true, thn_l, Bool.and_self, e_needPerson g, hy]
      split <;> rfl
theorem e_needNumber {σ : MS} (x a b : Int32) : f_X11_needNumber x a b σ = some (if decide (a ≤ x ∧ x ≤ b) = true then .inl 0 else .inr 1, σ) := by
  simp only [f_X11_needNumber, J_X11_needNumber_10]
  by_cases c : x < a
  · have : ¬ (a ≤ x ∧ x ≤ b) := by
      rw [Int32.le_iff_toInt_le]
      rw [Int32.lt_iff_toInt_lt] at c
      omega
    simp [c, this]
  · have c' : a ≤ x := by rw [← Int32.not_lt]; exact c
    by_cases d : x ≤ b
    · simp [c, c', d]
    · simp [c, d]
theorem e_needRoom {σ : MS} (x : Int32) : f_X11_needRoom x σ = some (if isR x = true then .inl 0 else .inr 0, σ) := by
  simp only [f_X11_needRoom, J_X11_needRoom_10, isR]
  by_cases c : x < 0
  · have : ¬ ((0 : Int32) ≤ x ∧ x ≤ 5) := by
      rw [Int32.le_iff_toInt_le]
      rw [Int32.lt_iff_toInt_lt] at c
      omega
    simp [c, this]
  · have c' : (0 : Int32) ≤ x := by rw [← Int32.not_lt]; exact c
    have e5 : (x < 6) ↔ (x ≤ 5) := by
      rw [Int32.le_iff_toInt_le, Int32.lt_iff_toInt_lt]
      have f : (5 : Int32).toInt = 5 := rfl
      have s : (6 : Int32).toInt = 6 := rfl
      rw [f, s]
      omega
    by_cases d : x ≤ 5
    · simp [c, c', d, e5]
    · simp [c, d, e5]
/-! the law's comparison of two answers -/
def cmpL (k : Int32) (m : Int32 × MS) : Option MS := (f_X12_thrown m.2).bind (fun t => if t = k then (if k = 0 then (if m.2 183 0 = m.1 then some m.2 else none) else some m.2) else none)
theorem cmp_ok {k : Int32} {m : Int32 × MS} (h1 : m.2 171 0 = k) (h2 : k = 0 → m.2 183 0 = m.1) : cmpL k m = some m.2 := by
  simp only [cmpL, f_X12_thrown, bnd_s, h1, if_true]
  by_cases c : k = 0
  · simp [c, h2 c]
  · simp [c]
