/-! layer 2: ways past flour -/
theorem itr_mono {α β : Type} {f : α → Option (α ⊕ β)} : ∀ (m n : Nat) (a : α) (b : β), m ≤ n → itr f m a = some b → itr f n a = some b := by
  intro m
  induction m with
  | zero => intro n a b _ h; simp [itr] at h
  | succ m ih =>
    intro n a b hmn h
    obtain ⟨k, rfl⟩ : ∃ k, n = k + 1 := ⟨n - 1, by omega⟩
    simp only [itr] at h ⊢
    cases hf : f a with
    | none => rw [hf] at h; simp at h
    | some r =>
      rw [hf] at h
      cases r with
      | inl a' => exact ih k a' b (by omega) h
      | inr b' => exact h
def wlk (t b c : Nat) : Nat → Nat → Nat → Option Nat
  | 0, _, _ => none
  | f + 1, a, k => if a = b then some k else if t.testBit ((a + c) % 6) then none else wlk t b c f ((a + c) % 6) (k + 1)
def e1 (o : Option Nat) : Int32 := match o with
  | none => -1
  | some k => nN k
def e2 (o : Option Nat) : Int32 := match o with
  | none => 1000000
  | some k => nN k
theorem e1_n : e1 none = -1 := Eq.trans rfl rfl
theorem e1_s (k : Nat) : e1 (some k) = nN k := Eq.trans rfl rfl
theorem e2_n : e2 none = nN 1000000 := Eq.trans rfl rfl
theorem e2_s (k : Nat) : e2 (some k) = nN k := Eq.trans rfl rfl
def mF (t : Nat) : MS := fun _ _ => nN t
def walkB (t a b c : Nat) : Bool := decide (f_X3_stepsRound 10 (nN a) (nN b) (nN c) (mF t) = some (e1 (wlk t b c 6 a 0))) && decide (f_X12_stepsBy 10 (nN a) (nN b) (nN c) (mF t) = some (e2 (wlk t b c 6 a 0))) && decide ((wlk t b c 6 a 0).getD 0 ≤ 5)
theorem walk_b : ∀ t, t < 64 → ∀ a, a < 6 → ∀ b, b < 6 → walkB t a b 1 = true ∧ walkB t a b 5 = true := by decide +kernel
theorem walk_ok (t : Nat) (ht : t < 64) (a : Nat) (ha : a < 6) (b : Nat) (hb : b < 6) :
    (f_X3_stepsRound 10 (nN a) (nN b) 1 (mF t) = some (e1 (wlk t b 1 6 a 0)) ∧ f_X12_stepsBy 10 (nN a) (nN b) 1 (mF t) = some (e2 (wlk t b 1 6 a 0)) ∧ (wlk t b 1 6 a 0).getD 0 ≤ 5) ∧
    (f_X3_stepsRound 10 (nN a) (nN b) 5 (mF t) = some (e1 (wlk t b 5 6 a 0)) ∧ f_X12_stepsBy 10 (nN a) (nN b) 5 (mF t) = some (e2 (wlk t b 5 6 a 0)) ∧ (wlk t b 5 6 a 0).getD 0 ≤ 5) := by
  obtain ⟨h1, h2⟩ := walk_b t ht a ha b hb
  unfold walkB at h1 h2
  rw [Bool.and_eq_true, Bool.and_eq_true, decide_eq_true_eq, decide_eq_true_eq, decide_eq_true_eq] at h1 h2
  exact ⟨⟨h1.1.1, h1.1.2, h1.2⟩, ⟨h2.1.1, h2.1.2, h2.2⟩⟩
theorem sr_same {σ : MS} {n : Nat} {t : Nat} (h : σ 3 2 = nN t) (hn : 6000 ≤ n) {a b c r : Int32} (hr : f_X3_stepsRound 10 a b c (mF t) = some r) : f_X3_stepsRound n a b c σ = some r := by
  have e : L_X3_stepsRound_6 n b c σ = L_X3_stepsRound_6 10 b c (mF t) := by
    funext x
    simp only [L_X3_stepsRound_6, h, mF]
    rfl
  unfold f_X3_stepsRound at hr ⊢
  rw [e]
  exact itr_mono 10 n _ _ (by omega) hr
theorem sb_same {σ : MS} {n : Nat} {t : Nat} (h : σ 172 4 = nN t) (hn : 6000 ≤ n) {a b c r : Int32} (hr : f_X12_stepsBy 10 a b c (mF t) = some r) : f_X12_stepsBy n a b c σ = some r := by
  have e : L_X12_stepsBy_6 n b c σ = L_X12_stepsBy_6 10 b c (mF t) := by
    funext x
    simp only [L_X12_stepsBy_6, f_X12_hasFlour, h, mF]
    rfl
  unfold f_X12_stepsBy at hr ⊢
  rw [e]
  exact itr_mono 10 n _ _ (by omega) hr
def omin (u d : Option Nat) : Option Nat := match u, d with
  | none, d => d
  | some k, none => some k
  | some k, some j => some (min k j)
def wayV (t a b : Nat) : Option Nat := omin (wlk t b 1 6 a 0) (wlk t b 5 6 a 0)
theorem l1e6' : (1000000 : Int32) = nN 1000000 := rfl
theorem omin_le {u d : Option Nat} (hu : u.getD 0 ≤ 5) (hd : d.getD 0 ≤ 5) : (omin u d).getD 0 ≤ 5 := by
  cases u with
  | none => exact hd
  | some k => cases d with
    | none => exact hu
    | some j => simp only [omin, Option.getD_some] at *; omega
theorem wayV_le {t a b : Nat} (ht : t < 64) (ha : a < 6) (hb : b < 6) : (wayV t a b).getD 0 ≤ 5 := by
  obtain ⟨⟨_, _, h1⟩, ⟨_, _, h2⟩⟩ := walk_ok t ht a ha b hb
  exact omin_le h1 h2
theorem e_X3_steps {σ : MS} {n t a b : Nat} (hn : 6000 ≤ n) (h : σ 3 2 = nN t) (ht : t < 64) (ha : a < 6) (hb : b < 6) : f_X3_steps n (nN a) (nN b) σ = some (e1 (wayV t a b)) := by
  obtain ⟨⟨h1, _, h2⟩, ⟨h3, _, h4⟩⟩ := walk_ok t ht a ha b hb
  simp only [f_X3_steps, J_X3_steps_28, sr_same h hn h1, sr_same h hn h3, bnd_s]
  unfold wayV
  revert h2 h4
  cases wlk t b 1 6 a 0 with
  | none =>
    cases wlk t b 5 6 a 0 with
    | none => intro _ _; rfl
    | some j =>
      intro _ h4
      have h4' : j ≤ 5 := h4
      simp only [e1_n, e1_s, omin, if_true]
      rw [mx_r (by rw [nN_m1lt (by omega)]; trivial)]
  | some k =>
    cases wlk t b 5 6 a 0 with
    | none =>
      intro h2 _
      have h2' : k ≤ 5 := h2
      simp only [e1_n, e1_s, omin, if_true]
      simp (disch := omega) only [nN_m1, if_false]
      rw [mx_l]
      have := nN_m1lt (a := k) (by omega)
      exact Int32.le_of_lt (by rw [this]; trivial)
    | some j =>
      intro h2 h4
      have h2' : k ≤ 5 := h2
      have h4' : j ≤ 5 := h4
      simp only [e1_n, e1_s, omin]
      simp (disch := omega) only [nN_m1, if_false, mnI_nN]
theorem e_X12_wayOf {σ : MS} {n t p a b : Nat} (hn : 6000 ≤ n) (h : σ 172 4 = nN t) (ht : t < 64) (hp : p < 8) (ha : a < 6) (hb : b < 6) (hr : rv (σ 172) 1 p = nN a) : f_X12_wayOf n (nN p) (nN b) σ = some (e2 (wayV t a b)) := by
  obtain ⟨⟨_, h1, h2⟩, ⟨_, h3, h4⟩⟩ := walk_ok t ht a ha b hb
  simp only [f_X12_wayOf, e_X12_of0 hp, hr, sb_same h hn h1, sb_same h hn h3, bnd_s]
  unfold wayV
  revert h2 h4
  cases wlk t b 1 6 a 0 with
  | none =>
    cases wlk t b 5 6 a 0 with
    | none => intro _ _; rfl
    | some j =>
      intro _ h4
      have h4' : j ≤ 5 := h4
      simp only [e2_n, e2_s, omin]
      rw [mnI_nN (by omega) (by omega), Nat.min_eq_right (by omega)]
  | some k =>
    cases wlk t b 5 6 a 0 with
    | none =>
      intro h2 _
      have h2' : k ≤ 5 := h2
      simp only [e2_n, e2_s, omin]
      rw [mnI_nN (by omega) (by omega), Nat.min_eq_left (by omega)]
    | some j =>
      intro h2 h4
      have h2' : k ≤ 5 := h2
      have h4' : j ≤ 5 := h4
      simp only [e2_n, e2_s, omin]
      rw [mnI_nN (by omega) (by omega)]
/-- where two may meet: the least sum, the first room -/
def meetG (t a b r : Nat) (x : Option Nat × Int32) : Option Nat × Int32 :=
  match t.testBit r, wayV t a r, wayV t b r with
  | false, some u, some v => if x.1.all (fun l => decide (u + v < l)) = true then (some (u + v), nN r) else x
  | _, _, _ => x
def meetV (t a b : Nat) : Int32 := (fR 6 (meetG t a b) (none, -1)).2
theorem meet_le {t a b r : Nat} {x : Option Nat × Int32} (ht : t < 64) (ha : a < 6) (hb : b < 6) (hr : r < 6) (hx : x.1.getD 0 ≤ 10) : (meetG t a b r x).1.getD 0 ≤ 10 := by
  have h1 := wayV_le ht ha hr
  have h2 := wayV_le ht hb hr
  unfold meetG
  revert h1 h2
  cases t.testBit r <;> cases wayV t a r <;> cases wayV t b r <;> intro h1 h2 <;> simp only [] <;> try exact hx
  split
  · simp only [Option.getD_some] at *
    omega
  · exact hx
theorem e_X3_meeting {σ : MS} {n t a b : Nat} (hn : 6000 ≤ n) (h : σ 3 2 = nN t) (ht : t < 64) (ha : a < 6) (hb : b < 6) : f_X3_meeting n (nN a) (nN b) σ = some (meetV t a b) := by
  unfold f_X3_meeting meetV
  refine itr_0P (fun (x : Option Nat × Int32) i => (nN (x.1.getD 12), x.2, i)) 6 (meetG t a b) (fun x => x.2) (fun _ x => x.1.getD 0 ≤ 10) (by omega) (none, -1) (by decide) ?_ ?_
  · intro r x hr hx
    refine ⟨?_, meet_le ht ha hb hr hx⟩
    obtain ⟨x1, x2⟩ := x
    have h1 := wayV_le ht ha hr
    have h2 := wayV_le ht hb hr
    have b1 : (1 : Int32) = bI true := rfl
    have b0 : (0 : Int32) = bI false := rfl
    have z1 : ((1 : Int32) = 0) = False := by decide
    simp (disch := omega) only [L_X3_meeting_9, J_X3_meeting_92, J_X3_meeting_54, l6, le_f, le_t, lt_f, lt_t, if_false, if_true, bnd_s, ite_bI, ok_bI, ok_0, ok_1, ltM_s, nN_s, Option.map_some, inb_nN, ix_nN, it_t, it_f, true_or, or_true, e_X3_steps hn h ht, h, and_bit, z1]
    unfold meetG
    have hx' : x1.getD 0 ≤ 10 := hx
    revert h1 h2
    cases t.testBit r
    · cases wayV t a r with
      | none => intro _ _; rfl
      | some u =>
        cases wayV t b r with
        | none =>
          intro h1 _
          have h1' : u ≤ 5 := h1
          simp only [if_true, e1_n, e1_s]
          simp (disch := omega) only [nN_m1, if_false]
        | some v =>
          intro h1 h2
          have h1' : u ≤ 5 := h1
          have h2' : v ≤ 5 := h2
          simp only [if_true, e1_n, e1_s]
          simp (disch := omega) only [nN_m1, if_false, nN_add]
          cases x1 with
          | none =>
            simp only [Option.getD_none, Option.all_none, if_true, Option.getD_some]
            rw [it_le (by omega) (by omega), if_neg (by omega)]
          | some l =>
            have hl : l ≤ 10 := hx'
            simp only [Option.getD_some, Option.all_some, decide_eq_true_eq]
            rw [it_le (by omega) (by omega)]
            by_cases c : u + v < l
            · rw [if_neg (by omega), if_pos c]
              rfl
            · rw [if_pos (by omega), if_neg c]
              rfl
    · intro _ _
      simp only [Bool.true_eq_false, if_false]
  · intro x _
    simp (disch := omega) only [L_X3_meeting_9, J_X3_meeting_92, J_X3_meeting_54, l6, le_f, le_t, lt_f, lt_t, if_false, if_true, bnd_s, ite_bI, ok_bI, ok_0, ok_1, ltM_s, nN_s, Option.map_some, inb_nN, ix_nN, it_t, it_f, true_or, or_true]
