/-! layer 2: small numbers in the machine's ints, sets of people as bits, loops that count -/
def nN (i : Nat) : Int32 := Int32.ofNat i
def bI (b : Bool) : Int32 := if b then 1 else 0
theorem bI_t : bI true = 1 := rfl
theorem bI_f : bI false = 0 := rfl
theorem bI_ok (b : Bool) : bI b = 0 ∨ bI b = 1 := by cases b <;> decide
theorem bI_z (b : Bool) : (bI b = 0) = (b = false) := by cases b <;> decide
theorem nN_toInt {i : Nat} (h : i < 2147483648) : (nN i).toInt = (i : Int) := Int32.toInt_ofNat_of_lt (by simpa using h)
theorem ix_nN {i : Nat} (h : i < 2147483648) : ix (nN i) = i := Int32.toNatClampNeg_ofNat_of_lt (by simpa using h)
theorem inb_nN {i n : Nat} (h : i < 2147483648) (hn : i < n) : inb (nN i) n = true := by
  simp only [inb, nN_toInt h, decide_eq_true_eq]
  omega
theorem nN_add (a b : Nat) : nN a + nN b = nN (a + b) := (Int32.ofNat_add a b).symm
theorem nN_mul (a b : Nat) : nN a * nN b = nN (a * b) := (Int32.ofNat_mul a b).symm
theorem nN_sub {a b : Nat} (h : b ≤ a) : nN a - nN b = nN (a - b) := (Int32.ofNat_sub a b h).symm
theorem nN_bv (a : Nat) : (nN a).toBitVec = BitVec.ofNat 32 a := rfl
theorem nN_or (a b : Nat) : nN a ||| nN b = nN (a ||| b) := by
  apply Int32.toBitVec.inj
  rw [Int32.toBitVec_or, nN_bv, nN_bv, nN_bv, BitVec.ofNat_or]
theorem nN_and (a b : Nat) : nN a &&& nN b = nN (a &&& b) := by
  apply Int32.toBitVec.inj
  rw [Int32.toBitVec_and, nN_bv, nN_bv, nN_bv, BitVec.ofNat_and]
theorem nN_lt {a b : Nat} (ha : a < 2147483648) (hb : b < 2147483648) : (nN a < nN b) = (a < b) := by
  rw [Int32.lt_iff_toInt_lt, nN_toInt ha, nN_toInt hb]
  exact propext (by omega)
theorem nN_le {a b : Nat} (ha : a < 2147483648) (hb : b < 2147483648) : (nN a ≤ nN b) = (a ≤ b) := by
  rw [Int32.le_iff_toInt_le, nN_toInt ha, nN_toInt hb]
  exact propext (by omega)
theorem nN_eq {a b : Nat} (ha : a < 2147483648) (hb : b < 2147483648) : (nN a = nN b) = (a = b) := by
  rw [← Int32.toInt_inj, nN_toInt ha, nN_toInt hb]
  exact propext (by omega)
theorem m1_toInt : (-1 : Int32).toInt = -1 := by decide
theorem nN_m1 {a : Nat} (ha : a < 2147483648) : (nN a = -1) = False := by
  rw [← Int32.toInt_inj, nN_toInt ha, m1_toInt]
  exact eq_false (by omega)
theorem nN_lt0 {a : Nat} (ha : a < 2147483648) : (nN a < 0) = False := by
  rw [Int32.lt_iff_toInt_lt, nN_toInt ha]
  exact eq_false (by have z : (0 : Int32).toInt = 0 := rfl; rw [z]; omega)
theorem nN_lem1 {a : Nat} (ha : a < 2147483648) : (nN a ≤ -1) = False := by
  rw [Int32.le_iff_toInt_le, nN_toInt ha, m1_toInt]
  exact eq_false (by omega)
theorem nN_m1lt {a : Nat} (ha : a < 2147483648) : ((-1 : Int32) < nN a) = True := by
  rw [Int32.lt_iff_toInt_lt, nN_toInt ha, m1_toInt]
  exact eq_true (by omega)
theorem nN_0le {a : Nat} (ha : a < 2147483648) : ((0 : Int32) ≤ nN a) = True := by
  rw [Int32.le_iff_toInt_le, nN_toInt ha]
  exact eq_true (by have z : (0 : Int32).toInt = 0 := rfl; rw [z]; omega)
theorem nN_of {x : Int32} {a b : Int} (h0 : 0 ≤ a) (h1 : a ≤ x.toInt) (h2 : x.toInt ≤ b) : ∃ k : Nat, x = nN k ∧ a ≤ k ∧ (k : Int) ≤ b ∧ k < 2147483648 := by
  have hx := x.toInt_lt
  have hk : x = nN x.toInt.toNat := by
    rw [← Int32.toInt_inj, nN_toInt (by omega)]
    omega
  exact ⟨x.toInt.toNat, hk, by omega, by omega, by omega⟩
theorem l0 : (0 : Int32) = nN 0 := rfl
theorem l1 : (1 : Int32) = nN 1 := rfl
theorem l2 : (2 : Int32) = nN 2 := rfl
theorem l3 : (3 : Int32) = nN 3 := rfl
theorem l4 : (4 : Int32) = nN 4 := rfl
theorem l5 : (5 : Int32) = nN 5 := rfl
theorem l6 : (6 : Int32) = nN 6 := rfl
theorem l7 : (7 : Int32) = nN 7 := rfl
theorem l8 : (8 : Int32) = nN 8 := rfl
theorem l9 : (9 : Int32) = nN 9 := rfl
theorem l10 : (10 : Int32) = nN 10 := rfl
theorem l11 : (11 : Int32) = nN 11 := rfl
theorem l12 : (12 : Int32) = nN 12 := rfl
theorem l14 : (14 : Int32) = nN 14 := rfl
theorem l20 : (20 : Int32) = nN 20 := rfl
theorem l42 : (42 : Int32) = nN 42 := rfl
theorem l60 : (60 : Int32) = nN 60 := rfl
theorem l64 : (64 : Int32) = nN 64 := rfl
theorem l99 : (99 : Int32) = nN 99 := rfl
theorem l106 : (106 : Int32) = nN 106 := rfl
theorem l170 : (170 : Int32) = nN 170 := rfl
theorem l234 : (234 : Int32) = nN 234 := rfl
theorem l400 : (400 : Int32) = nN 400 := rfl
theorem l474 : (474 : Int32) = nN 474 := rfl
theorem l1323 : (1323 : Int32) = nN 1323 := rfl
theorem l9999 : (9999 : Int32) = nN 9999 := rfl
theorem mx_l {a c : Int32} (h : c ≤ a) : mxI a c = a := by
  rw [mxI, if_neg (by rw [Int32.not_lt]; exact h)]
theorem mx_r {a c : Int32} (h : a < c) : mxI a c = c := by rw [mxI, if_pos h]
theorem mnI_nN {a b : Nat} (ha : a < 2147483648) (hb : b < 2147483648) : mnI (nN a) (nN b) = nN (min a b) := by
  unfold mnI
  simp only [nN_lt hb ha]
  by_cases h : b < a
  · rw [if_pos h, Nat.min_eq_right (by omega)]
  · rw [if_neg h, Nat.min_eq_left (by omega)]
theorem mxI_nN {a b : Nat} (ha : a < 2147483648) (hb : b < 2147483648) : mxI (nN a) (nN b) = nN (max a b) := by
  unfold mxI
  simp only [nN_lt ha hb]
  by_cases h : a < b
  · rw [if_pos h, Nat.max_eq_right (by omega)]
  · rw [if_neg h, Nat.max_eq_left (by omega)]
/-! bits -/
theorem shl1 {q : Nat} (h : q < 31) : shlI 1 (nN q) = nN (2 ^ q) := by
  have H : ∀ q, q < 31 → shlI 1 (nN q) = nN (2 ^ q) := by decide +kernel
  exact H q h
theorem p2lt {q : Nat} (h : q < 31) : 2 ^ q < 2147483648 := by
  have H : ∀ q, q < 31 → 2 ^ q < 2147483648 := by decide +kernel
  exact H q h
theorem all_nN {N : Nat} (h : N ≤ 8) : shlI 1 (nN N) - 1 = nN (2 ^ N - 1) := by
  have H : ∀ q, q < 9 → shlI 1 (nN q) - 1 = nN (2 ^ q - 1) := by decide +kernel
  exact H N (by omega)
theorem all_lt {N : Nat} (h : N ≤ 8) : 2 ^ N - 1 < 256 := by
  have H : ∀ q, q < 9 → 2 ^ q - 1 < 256 := by decide +kernel
  exact H N (by omega)
theorem and_bit {s p : Nat} (hs : s < 2147483648) (hp : p < 31) : (nN s &&& shlI 1 (nN p) = 0) = (s.testBit p = false) := by
  rw [shl1 hp, nN_and, l0, nN_eq (Nat.lt_of_le_of_lt Nat.and_le_left hs) (by omega)]
  apply propext
  constructor
  · intro h
    have := congrArg (fun x => x.testBit p) h
    simpa [Nat.testBit_and, Nat.testBit_two_pow] using this
  · intro h
    apply Nat.eq_of_testBit_eq
    intro k
    rw [Nat.testBit_and, Nat.testBit_two_pow, Nat.zero_testBit]
    by_cases c : p = k
    · subst c
      rw [h]
      rfl
    · simp [c]
theorem it_le {α : Type} {a b : Nat} {x y : α} (ha : a < 2147483648) (hb : b < 2147483648) : (if nN a ≤ nN b then x else y) = if a ≤ b then x else y := by simp only [nN_le ha hb]
theorem it_lt {α : Type} {a b : Nat} {x y : α} (ha : a < 2147483648) (hb : b < 2147483648) : (if nN a < nN b then x else y) = if a < b then x else y := by simp only [nN_lt ha hb]
theorem it_eq {α : Type} {a b : Nat} {x y : α} (ha : a < 2147483648) (hb : b < 2147483648) : (if nN a = nN b then x else y) = if a = b then x else y := by simp only [nN_eq ha hb]
theorem it_m1 {α : Type} {a : Nat} {x y : α} (ha : a < 2147483648) : (if nN a = -1 then x else y) = y := by simp only [nN_m1 ha, if_false]
theorem it_lt0 {α : Type} {a : Nat} {x y : α} (ha : a < 2147483648) : (if nN a < 0 then x else y) = y := by simp only [nN_lt0 ha, if_false]
theorem it_0le {α : Type} {a : Nat} {x y : α} (ha : a < 2147483648) : (if 0 ≤ nN a then x else y) = x := by simp only [nN_0le ha, if_true]
theorem it_bit {α : Type} {s p : Nat} {x y : α} (hs : s < 2147483648) (hp : p < 31) : (if nN s &&& shlI 1 (nN p) = 0 then x else y) = if s.testBit p = true then y else x := by
  simp only [and_bit hs hp]
  cases s.testBit p <;> rfl
def bc (s : Nat) : Nat := (s.testBit 0).toNat + (s.testBit 1).toNat + (s.testBit 2).toNat + (s.testBit 3).toNat + (s.testBit 4).toNat + (s.testBit 5).toNat + (s.testBit 6).toNat + (s.testBit 7).toNat
theorem bc_le (s : Nat) : bc s ≤ 8 := by
  unfold bc
  have h : ∀ b : Bool, b.toNat ≤ 1 := by decide
  have h0 := h (s.testBit 0)
  have h1 := h (s.testBit 1)
  have h2 := h (s.testBit 2)
  have h3 := h (s.testBit 3)
  have h4 := h (s.testBit 4)
  have h5 := h (s.testBit 5)
  have h6 := h (s.testBit 6)
  have h7 := h (s.testBit 7)
  omega
theorem e_bc {s : Nat} (σ : MS) (h : s < 256) : f_J6_bitCount_0f7a4 (nN s) σ = some (nN (bc s)) := by
  have H : ∀ s, s < 256 → f_J6_bitCount_0f7a4 (nN s) (fun _ _ => 0) = some (nN (bc s)) := by decide +kernel
  exact H s h
theorem nN_diff {s t : Nat} (hs : s < 256) (ht : t < 256) : nN s &&& (nN t ^^^ -1) = nN (s &&& (255 ^^^ t)) := by
  have hx : nN t ^^^ -1 = ~~~ (nN t) := by
    apply Int32.toBitVec.inj
    rw [Int32.toBitVec_xor, Int32.toBitVec_not]
    exact BitVec.xor_allOnes
  rw [hx]
  apply Int32.toBitVec.inj
  rw [Int32.toBitVec_and, Int32.toBitVec_not, nN_bv, nN_bv, nN_bv]
  apply BitVec.eq_of_getLsbD_eq
  intro i hi
  simp only [BitVec.getLsbD_and, BitVec.getLsbD_not, BitVec.getLsbD_ofNat, Nat.testBit_and, Nat.testBit_xor, hi, decide_true, Bool.true_and]
  by_cases h8 : i < 8
  · have : (255 : Nat).testBit i = true := by
      have H : ∀ i, i < 8 → (255 : Nat).testBit i = true := by decide +kernel
      exact H i h8
    rw [this]
    cases t.testBit i <;> simp
  · have : s.testBit i = false := Nat.testBit_lt_two_pow (Nat.lt_of_lt_of_le hs (by
      have : 2 ^ 8 ≤ 2 ^ i := Nat.pow_le_pow_right (by omega) (by omega)
      simpa using this))
    simp [this]
/-! loops that count -/
def fR {α : Type} (N : Nat) (g : Nat → α → α) (a : α) : α := match N with
  | 0 => a
  | k + 1 => g k (fR k g a)
theorem fR_0 {α : Type} (g : Nat → α → α) (a : α) : fR 0 g a = a := rfl
theorem fR_s {α : Type} (k : Nat) (g : Nat → α → α) (a : α) : fR (k + 1) g a = g k (fR k g a) := rfl
theorem fR_congr {α : Type} {g g' : Nat → α → α} : ∀ {N : Nat} (a : α), (∀ i b, i < N → g i b = g' i b) → fR N g a = fR N g' a := by
  intro N
  induction N with
  | zero => intro a _; rfl
  | succ k ih => intro a h; rw [fR_s, fR_s, ih a (fun i b hi => h i b (by omega)), h k _ (by omega)]
theorem fR_inv {α : Type} (P : Nat → α → Prop) {g : Nat → α → α} : ∀ {N : Nat} (a : α), P 0 a → (∀ i b, i < N → P i b → P (i + 1) (g i b)) → P N (fR N g a) := by
  intro N
  induction N with
  | zero => intro a h _; exact h
  | succ k ih => intro a h hs; exact hs k _ (by omega) (ih a h (fun i b hi => hs i b (by omega)))
/-- a loop from the number s up to s + N, with an invariant -/
theorem itr_upP {α γ β : Type} {f : γ → Option (γ ⊕ β)} (mk : α → Int32 → γ) (s N : Nat) (g : Nat → α → α) (fin : α → β) (P : Nat → α → Prop) {n : Nat} (hn : N < n) (a : α) (h0 : P 0 a)
    (hstep : ∀ i a, i < N → P i a → f (mk a (nN (s + i))) = some (.inl (mk (g i a) (nN (s + i + 1)))) ∧ P (i + 1) (g i a))
    (hlast : ∀ a, P N a → f (mk a (nN (s + N))) = some (.inr (fin a))) : itr f n (mk a (nN s)) = some (fin (fR N g a)) := by
  have hP : ∀ i, i ≤ N → P i (fR i g a) := by
    intro i
    induction i with
    | zero => intro _; exact h0
    | succ k ih => intro hk; exact (hstep k _ (by omega) (ih (by omega))).2
  have := itr_count (f := f) (fun i => mk (fR i g a) (nN (s + i))) N (fin (fR N g a)) (fun i hi => (hstep i _ hi (hP i (by omega))).1) (hlast _ (hP N (Nat.le_refl _))) n 0 (by omega) (by omega)
  exact this
theorem itr_up {α γ β : Type} {f : γ → Option (γ ⊕ β)} (mk : α → Int32 → γ) (s N : Nat) (g : Nat → α → α) (fin : α → β) {n : Nat} (hn : N < n) (a : α)
    (hstep : ∀ i a, i < N → f (mk a (nN (s + i))) = some (.inl (mk (g i a) (nN (s + i + 1)))))
    (hlast : ∀ a, f (mk a (nN (s + N))) = some (.inr (fin a))) : itr f n (mk a (nN s)) = some (fin (fR N g a)) :=
  itr_upP mk s N g fin (fun _ _ => True) hn a trivial (fun i a hi _ => ⟨hstep i a hi, trivial⟩) (fun a _ => hlast a)
/-- a loop from 0 up to N -/
theorem itr_0 {α γ β : Type} {f : γ → Option (γ ⊕ β)} (mk : α → Int32 → γ) (N : Nat) (g : Nat → α → α) (fin : α → β) {n : Nat} (hn : N < n) (a : α)
    (hstep : ∀ i a, i < N → f (mk a (nN i)) = some (.inl (mk (g i a) (nN (i + 1)))))
    (hlast : ∀ a, f (mk a (nN N)) = some (.inr (fin a))) : itr f n (mk a 0) = some (fin (fR N g a)) := by
  have := itr_up (f := f) mk 0 N g fin hn a (fun i a hi => by simpa using hstep i a hi) (fun a => by simpa using hlast a)
  exact this
theorem itr_0P {α γ β : Type} {f : γ → Option (γ ⊕ β)} (mk : α → Int32 → γ) (N : Nat) (g : Nat → α → α) (fin : α → β) (P : Nat → α → Prop) {n : Nat} (hn : N < n) (a : α) (h0 : P 0 a)
    (hstep : ∀ i a, i < N → P i a → f (mk a (nN i)) = some (.inl (mk (g i a) (nN (i + 1)))) ∧ P (i + 1) (g i a))
    (hlast : ∀ a, P N a → f (mk a (nN N)) = some (.inr (fin a))) : itr f n (mk a 0) = some (fin (fR N g a)) := by
  have := itr_upP (f := f) mk 0 N g fin P hn a h0 (fun i a hi hp => by simpa using hstep i a hi hp) (fun a hp => by simpa using hlast a hp)
  exact this
/-! sets of people -/
def mset (N : Nat) (P : Nat → Bool) : Nat := fR N (fun q a => if P q then a ||| 2 ^ q else a) 0
theorem mset_bit (P : Nat → Bool) : ∀ (N q : Nat), (mset N P).testBit q = (decide (q < N) && P q) := by
  intro N
  induction N with
  | zero => intro q; simp [mset, fR_0]
  | succ k ih =>
    intro q
    have hk : mset (k + 1) P = if P k then mset k P ||| 2 ^ k else mset k P := rfl
    rw [hk]
    by_cases h : P k = true
    · rw [if_pos h, Nat.testBit_or, ih, Nat.testBit_two_pow]
      by_cases hq : k = q
      · subst hq; simp [h]
      · by_cases h2 : q < k
        · simp [hq, h2, Nat.lt_succ_of_lt h2]
        · have : ¬ q < k + 1 := by omega
          simp [hq, h2, this]
    · rw [if_neg h, ih]
      by_cases hq : k = q
      · subst hq; simp [h]
      · by_cases h2 : q < k
        · simp [h2, Nat.lt_succ_of_lt h2]
        · have : ¬ q < k + 1 := by omega
          simp [h2, this]
theorem mset_lt (P : Nat → Bool) (N : Nat) : mset N P < 2 ^ N := by
  apply Nat.lt_pow_two_of_testBit
  intro i hi
  rw [mset_bit]
  have : ¬ i < N := by omega
  simp [this]
theorem p28 {N : Nat} (h : N ≤ 8) : 2 ^ N ≤ 256 := by
  have := Nat.pow_le_pow_right (show 0 < 2 by omega) h
  simpa using this
theorem mset_256 (P : Nat → Bool) {N : Nat} (h : N ≤ 8) : mset N P < 256 := Nat.lt_of_lt_of_le (mset_lt P N) (p28 h)
theorem mset_congr {P P' : Nat → Bool} {N : Nat} (h : ∀ q, q < N → P q = P' q) : mset N P = mset N P' := by
  unfold mset
  exact fR_congr 0 (fun i b hi => by rw [h i hi])
theorem bit_ext {s t : Nat} (h : ∀ q, s.testBit q = t.testBit q) : s = t := Nat.eq_of_testBit_eq h
theorem bit_hi {s q : Nat} (h : s < 256) (hq : 8 ≤ q) : s.testBit q = false := Nat.testBit_lt_two_pow (Nat.lt_of_lt_of_le h (by
  have : 2 ^ 8 ≤ 2 ^ q := Nat.pow_le_pow_right (by omega) hq
  simpa using this))
theorem bc_congr {s t : Nat} (h : ∀ q, q < 8 → s.testBit q = t.testBit q) : bc s = bc t := by
  unfold bc
  rw [h 0 (by omega), h 1 (by omega), h 2 (by omega), h 3 (by omega), h 4 (by omega), h 5 (by omega), h 6 (by omega), h 7 (by omega)]
theorem and_256 {s t : Nat} (h : s < 256) : s &&& t < 256 := Nat.lt_of_le_of_lt Nat.and_le_left h
theorem or_256 {s t : Nat} (hs : s < 256) (ht : t < 256) : s ||| t < 256 := by
  have := Nat.or_lt_two_pow (n := 8) (x := s) (y := t) (by simpa using hs) (by simpa using ht)
  simpa using this
