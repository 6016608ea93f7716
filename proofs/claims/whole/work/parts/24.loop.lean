/-! layer 2: loops over people and over pairs -/
theorem le_f {a b : Nat} (h : b < a) (ha : a < 2147483648) : (nN a ≤ nN b) = False := by
  rw [nN_le ha (by omega)]
  exact eq_false (by omega)
theorem le_t {a b : Nat} (h : a ≤ b) (hb : b < 2147483648) : (nN a ≤ nN b) = True := by
  rw [nN_le (by omega) hb]
  exact eq_true (by omega)
theorem lt_f {a b : Nat} (h : b ≤ a) (ha : a < 2147483648) : (nN a < nN b) = False := by
  rw [nN_lt ha (by omega)]
  exact eq_false (by omega)
theorem lt_t {a b : Nat} (h : a < b) (hb : b < 2147483648) : (nN a < nN b) = True := by
  rw [nN_lt (by omega) hb]
  exact eq_true (by omega)
def sm (N : Nat) (f : Nat → Nat) : Nat := fR N (fun i a => a + f i) 0
theorem sm_s (N : Nat) (f : Nat → Nat) : sm (N + 1) f = sm N f + f N := rfl
theorem fR_sm (f : Nat → Nat) : ∀ (N a : Nat), fR N (fun i a => a + f i) a = a + sm N f := by
  intro N
  induction N with
  | zero => intro a; rfl
  | succ k ih => intro a; rw [fR_s, ih, sm_s]; omega
theorem sm_congr {f g : Nat → Nat} {N : Nat} (h : ∀ i, i < N → f i = g i) : sm N f = sm N g := fR_congr 0 (fun i b hi => by rw [h i hi])
theorem sm_le {f : Nat → Nat} {c : Nat} : ∀ {N : Nat}, (∀ i, i < N → f i ≤ c) → sm N f ≤ N * c := by
  intro N
  induction N with
  | zero => intro _; exact Nat.zero_le _
  | succ k ih =>
    intro h
    have := ih (fun i hi => h i (by omega))
    have := h k (by omega)
    rw [sm_s, Nat.succ_mul]
    omega
theorem sm_add (f g : Nat → Nat) : ∀ N, sm N (fun i => f i + g i) = sm N f + sm N g := by
  intro N
  induction N with
  | zero => rfl
  | succ k ih => rw [sm_s, sm_s, sm_s, ih]; omega
/-- pairs, each once: as the program goes, and as the reference goes -/
def pU {α : Type} (N : Nat) (g : Nat → Nat → α → α) (a : α) : α := fR N (fun p a => fR (N - (p + 1)) (fun i a => g p (p + 1 + i) a) a) a
def pD {α : Type} (N : Nat) (g : Nat → Nat → α → α) (a : α) : α := fR N (fun p a => fR p (fun q a => g p q a) a) a
theorem fR_comm1 {α : Type} (u : α → α) (g : Nat → α → α) : ∀ (N : Nat) (a : α), (∀ i b, i < N → g i (u b) = u (g i b)) → fR N g (u a) = u (fR N g a) := by
  intro N
  induction N with
  | zero => intro a _; rfl
  | succ k ih => intro a h; rw [fR_s, fR_s, ih a (fun i b hi => h i b (by omega)), h k _ (by omega)]
/-- two steps a round, apart -/
theorem fR_split {α : Type} (u v : Nat → α → α) : ∀ (N : Nat) (a : α), (∀ i j b, i < N → j < N → u i (v j b) = v j (u i b)) → fR N (fun i b => u i (v i b)) a = fR N u (fR N v a) := by
  intro N
  induction N with
  | zero => intro a _; rfl
  | succ k ih =>
    intro a h
    rw [fR_s, ih a (fun i j b hi hj => h i j b (by omega) (by omega)), fR_s, fR_s]
    congr 1
    exact (fR_comm1 (v k) u k _ (fun i b hi => h i k b (by omega) (by omega))).symm
theorem pU_pD {α : Type} (g : Nat → Nat → α → α) : ∀ (N : Nat) (a : α), (∀ p q p' q' b, p < N → q < N → p' < N → q' < N → g p q (g p' q' b) = g p' q' (g p q b)) → pU N g a = pD N (fun p q => g q p) a := by
  intro N
  induction N with
  | zero => intro a _; rfl
  | succ N ih =>
    intro a hc
    have hD : pD (N + 1) (fun p q => g q p) a = fR N (fun q a => g q N a) (pD N (fun p q => g q p) a) := rfl
    rw [hD, ← ih a (fun p q p' q' b h1 h2 h3 h4 => hc p q p' q' b (by omega) (by omega) (by omega) (by omega))]
    have h1 : pU (N + 1) g a = fR N (fun p a => g p N (fR (N - (p + 1)) (fun i a => g p (p + 1 + i) a) a)) a := by
      unfold pU
      rw [fR_s]
      have : N + 1 - (N + 1) = 0 := by omega
      rw [this, fR_0]
      apply fR_congr
      intro p b hp
      have e : N + 1 - (p + 1) = (N - (p + 1)) + 1 := by omega
      rw [e, fR_s]
      have e2 : p + 1 + (N - (p + 1)) = N := by omega
      rw [e2]
    rw [h1]
    unfold pU
    refine fR_split (fun p a => g p N a) (fun p a => fR (N - (p + 1)) (fun i a => g p (p + 1 + i) a) a) N a ?_
    intro i j b hi hj
    exact (fR_comm1 (g i N) (fun k a => g j (j + 1 + k) a) (N - (j + 1)) b (fun k b hk => hc j (j + 1 + k) i N b (by omega) (by omega) (by omega) (by omega))).symm
theorem pD_congr {α : Type} {g g' : Nat → Nat → α → α} {N : Nat} (a : α) (h : ∀ p q b, p < N → q < p → g p q b = g' p q b) : pD N g a = pD N g' a :=
  fR_congr a (fun p b hp => fR_congr b (fun q c hq => h p q c hp hq))
theorem pU_congr {α : Type} {g g' : Nat → Nat → α → α} {N : Nat} (a : α) (h : ∀ p q b, p < q → q < N → g p q b = g' p q b) : pU N g a = pU N g' a :=
  fR_congr a (fun p b hp => fR_congr b (fun i c hi => h p (p + 1 + i) c (by omega) (by omega)))
/-- pairs that a loop counts -/
def cD (N : Nat) (b : Nat → Nat → Bool) : Nat := pD N (fun p q a => a + (b p q).toNat) 0
theorem cU_cD {N : Nat} (b : Nat → Nat → Bool) (hs : ∀ p q, p < N → q < N → b p q = b q p) : pU N (fun p q a => a + (b p q).toNat) 0 = cD N b := by
  rw [pU_pD (fun p q a => a + (b p q).toNat) N 0 (fun p q p' q' c _ _ _ _ => by omega)]
  exact pD_congr 0 (fun p q c hp hq => by rw [hs q p (by omega) hp])
theorem cD_s (N : Nat) (b : Nat → Nat → Bool) : cD (N + 1) b = cD N b + sm N (fun q => (b N q).toNat) := by
  have : cD (N + 1) b = fR N (fun q a => a + (b N q).toNat) (cD N b) := rfl
  rw [this, fR_sm]
theorem cD_congr {N : Nat} {b b' : Nat → Nat → Bool} (h : ∀ p q, p < N → q < p → b p q = b' p q) : cD N b = cD N b' :=
  pD_congr 0 (fun p q c hp hq => by rw [h p q hp hq])
/-- each pair twice -/
theorem sm2 (b : Nat → Nat → Bool) : ∀ (N : Nat), (∀ p q, p < N → q < N → b p q = b q p) → sm N (fun p => sm N (fun q => (decide (q ≠ p) && b p q).toNat)) = 2 * cD N b := by
  intro N
  induction N with
  | zero => intro _; rfl
  | succ N ih =>
    intro hs
    have h1 : sm (N + 1) (fun p => sm (N + 1) (fun q => (decide (q ≠ p) && b p q).toNat)) = sm N (fun p => sm N (fun q => (decide (q ≠ p) && b p q).toNat)) + sm N (fun p => (b N p).toNat) + sm N (fun q => (b N q).toNat) := by
      rw [sm_s, ← sm_add]
      congr 1
      · apply sm_congr
        intro p hp
        rw [sm_s]
        have : decide (N ≠ p) = true := decide_eq_true (by omega)
        rw [this, Bool.true_and, hs p N (by omega) (by omega)]
      · rw [sm_s]
        have : decide (N ≠ N) = false := decide_eq_false (by omega)
        rw [this, Bool.false_and]
        show sm N _ + 0 = _
        apply sm_congr
        intro q hq
        have : decide (q ≠ N) = true := decide_eq_true (by omega)
        rw [this, Bool.true_and]
    rw [h1, ih (fun p q hp hq => hs p q (by omega) (by omega)), cD_s]
    omega
/-- a set's size is a sum -/
theorem bc_mset (P : Nat → Bool) : ∀ N, N ≤ 8 → bc (mset N P) = sm N (fun q => (P q).toNat) := by
  intro N hN
  have hb : ∀ q, (mset N P).testBit q = (decide (q < N) && P q) := mset_bit P N
  unfold bc
  rw [hb, hb, hb, hb, hb, hb, hb, hb]
  have hN' : N = 0 ∨ N = 1 ∨ N = 2 ∨ N = 3 ∨ N = 4 ∨ N = 5 ∨ N = 6 ∨ N = 7 ∨ N = 8 := by omega
  rcases hN' with h | h | h | h | h | h | h | h | h <;> subst h <;> simp [sm, fR]
