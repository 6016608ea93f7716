/-! layer 2: the tape is fed and cut -/
theorem itr_st {α β : Type} {f : α → Option (α ⊕ β)} {n : Nat} {a a' : α} (h : f a = some (.inl a')) : itr f (n + 1) a = itr f n a' := by simp only [itr, h]; rfl
theorem itr_en {α β : Type} {f : α → Option (α ⊕ β)} {n : Nat} {a : α} {b : β} (h : f a = some (.inr b)) : itr f (n + 1) a = some b := by simp only [itr, h]; rfl
theorem low8 (x : Int32) : ∃ b, b < 256 ∧ x &&& 255 = nN b ∧ b2b x = sb b := by
  have hb : (x &&& 255).toBitVec.toNat < 256 := by
    rw [Int32.toBitVec_and, BitVec.toNat_and]
    have : (255 : Int32).toBitVec.toNat = 255 := by decide
    rw [this]
    exact Nat.lt_of_le_of_lt Nat.and_le_right (by omega)
  refine ⟨(x &&& 255).toBitVec.toNat, hb, ?_, ?_⟩
  · unfold nN
    rw [Int32.ofNat_bitVecToNat, Int32.ofBitVec_toBitVec]
  · have e : nN ((x &&& 255).toBitVec.toNat) = x &&& 255 := by
      unfold nN
      rw [Int32.ofNat_bitVecToNat, Int32.ofBitVec_toBitVec]
    unfold sb
    rw [e]
    unfold b2b
    have e8 : (x &&& 255).toInt8 = x.toInt8 := by
      apply Int8.toBitVec.inj
      rw [Int32.toBitVec_toInt8, Int32.toBitVec_toInt8, Int32.toBitVec_and]
      apply BitVec.eq_of_getLsbD_eq
      intro i hi
      rw [BitVec.getLsbD_signExtend, BitVec.getLsbD_signExtend]
      have h32 : i < 32 := by omega
      simp only [hi, decide_true, Bool.true_and, h32, if_true, BitVec.getLsbD_and]
      have h255 : (255 : Int32).toBitVec.getLsbD i = true := by
        have H : ∀ i, i < 8 → (255 : Int32).toBitVec.getLsbD i = true := by decide +kernel
        exact H i hi
      rw [h255, Bool.and_true]
    rw [e8]
theorem b2b2 (x : Int32) : b2b (b2b x) = b2b x := by
  unfold b2b
  rw [Int8.toInt8_toInt32]
theorem shr8 (v : Int32) {q : Nat} (hq : q < 4) : shrI v (nN (24 - 8 * q)) &&& 255 = ushI v (nN (24 - 8 * q)) &&& 255 := by
  apply Int32.toBitVec.inj
  rw [Int32.toBitVec_and, Int32.toBitVec_and]
  apply BitVec.eq_of_getLsbD_eq
  intro i hi
  rw [BitVec.getLsbD_and, BitVec.getLsbD_and]
  by_cases h8 : i < 8
  · have e1 : (shrI v (nN (24 - 8 * q))).toBitVec.getLsbD i = v.toBitVec.getLsbD (24 - 8 * q + i) := by
      have hs : (shrI v (nN (24 - 8 * q))).toBitVec = v.toBitVec.sshiftRight (24 - 8 * q) := by
        have hq' : q = 0 ∨ q = 1 ∨ q = 2 ∨ q = 3 := by omega
        rcases hq' with h | h | h | h <;> subst h <;> rfl
      rw [hs, BitVec.getLsbD_sshiftRight]
      have : 24 - 8 * q + i < 32 := by omega
      simp [this, hi]
    have e2 : (ushI v (nN (24 - 8 * q))).toBitVec.getLsbD i = v.toBitVec.getLsbD (24 - 8 * q + i) := by
      have hs : (ushI v (nN (24 - 8 * q))).toBitVec = v.toBitVec >>> (24 - 8 * q) := by
        have hq' : q = 0 ∨ q = 1 ∨ q = 2 ∨ q = 3 := by omega
        rcases hq' with h | h | h | h <;> subst h <;> rfl
      rw [hs, BitVec.getLsbD_ushiftRight]
    rw [e1, e2]
  · have h255 : (255 : Int32).toBitVec.getLsbD i = false := by
      have H : ∀ i, i < 32 → 8 ≤ i → (255 : Int32).toBitVec.getLsbD i = false := by decide +kernel
      exact H i hi (by omega)
    rw [h255, Bool.and_false, Bool.and_false]
/-- one byte: the program's, and the reference's -/
theorem byte_ok (v : Int32) {q : Nat} (hq : q < 4) : ∃ b, b < 256 ∧ ushI v (nN (24 - 8 * q)) &&& 255 = nN b ∧ b2b (b2b (shrI v (nN (24 - 8 * q)))) = sb b := by
  obtain ⟨b, h1, h2, h3⟩ := low8 (shrI v (nN (24 - 8 * q)))
  exact ⟨b, h1, by rw [← shr8 v hq]; exact h2, by rw [b2b2]; exact h3⟩
theorem e_append {σ : MS} {n L : Nat} (v : Int32) (hn : 6000 ≤ n) (hL : L + 4 ≤ 400) (h : σ 1 1 = nN L) : ∃ τ, f_X9_append n v σ = some (0, τ) ∧ τ 1 1 = nN (L + 4) ∧ (∀ q, q < 4 → τ 2 (L + q) = ushI v (nN (24 - 8 * q)) &&& 255) ∧ (∀ k, (k < L ∨ L + 4 ≤ k) → τ 2 k = σ 2 k) ∧ (∀ k, k ≠ 1 → τ 1 k = σ 1 k) ∧ (∀ o, o ≠ 1 → o ≠ 2 → τ o = σ o) := by
  have step : ∀ (t : MS) (s l : Nat), t 1 1 = nN l → l < 400 → s < 32 → L_X9_append_3 n v σ (nN s, t) = some (.inl (nN s + (-8), mu (mu t 2 l (ushI v (nN s) &&& 255)) 1 1 (nN (l + 1)))) := by
    intro t s l ht hl hs
    have m : mu t 2 l (ushI v (nN s) &&& 255) 1 1 = nN l := by rw [mu_row (by omega)]; exact ht
    have z : (nN s < 0) = False := nN_lt0 (by omega)
    simp (disch := omega) only [L_X9_append_3, z, if_false, ht, l400, le_f, le_f, le_t, lt_f, lt_t, if_false, if_true, bnd_s, ite_bI, ok_bI, ok_0, ok_1, ltM_s, nN_s, Option.map_some, inb_nN, ix_nN, it_t, it_f, true_or, or_true, m]
  obtain ⟨m, rfl⟩ : ∃ m, n = m + 5 := ⟨n - 5, by omega⟩
  have c24 : (24 : Int32) = nN 24 := rfl
  have c16 : nN 24 + (-8) = nN 16 := by decide
  have c8 : nN 16 + (-8) = nN 8 := by decide
  have c0 : nN 8 + (-8) = nN 0 := by decide
  have s1 := step σ 24 L h (by omega) (by omega)
  rw [c16] at s1
  generalize ht1 : mu (mu σ 2 L (ushI v (nN 24) &&& 255)) 1 1 (nN (L + 1)) = t1 at s1
  have h1 : t1 1 1 = nN (L + 1) := by rw [← ht1, mu_own]; rfl
  have s2 := step t1 16 (L + 1) h1 (by omega) (by omega)
  rw [c8] at s2
  generalize ht2 : mu (mu t1 2 (L + 1) (ushI v (nN 16) &&& 255)) 1 1 (nN (L + 1 + 1)) = t2 at s2
  have h2 : t2 1 1 = nN (L + 1 + 1) := by rw [← ht2, mu_own]; rfl
  have s3 := step t2 8 (L + 1 + 1) h2 (by omega) (by omega)
  rw [c0] at s3
  generalize ht3 : mu (mu t2 2 (L + 1 + 1) (ushI v (nN 8) &&& 255)) 1 1 (nN (L + 1 + 1 + 1)) = t3 at s3
  have h3 : t3 1 1 = nN (L + 1 + 1 + 1) := by rw [← ht3, mu_own]; rfl
  have s4 := step t3 0 (L + 1 + 1 + 1) h3 (by omega) (by omega)
  generalize ht4 : mu (mu t3 2 (L + 1 + 1 + 1) (ushI v (nN 0) &&& 255)) 1 1 (nN (L + 1 + 1 + 1 + 1)) = t4 at s4
  have s5 : L_X9_append_3 (m + 5) v σ (nN 0 + (-8), t4) = some (.inr (0, t4)) := by
    have z : (nN 0 + (-8) < 0) = True := by decide
    simp only [L_X9_append_3, J_X9_append_49, z, if_true, Option.map_some]
  refine ⟨t4, ?_, ?_, ?_, ?_, ?_, ?_⟩
  · unfold f_X9_append
    rw [c24, itr_st s1, itr_st s2, itr_st s3, itr_st s4, itr_en s5]
  · rw [← ht4, mu_own]
    rfl
  · intro q hq
    have hq' : q = 0 ∨ q = 1 ∨ q = 2 ∨ q = 3 := by omega
    rcases hq' with hh | hh | hh | hh <;> subst hh
    · rw [← ht4, mu_row (by omega), mu_at, if_neg (by omega), ← ht3, mu_row (by omega), mu_at, if_neg (by omega), ← ht2, mu_row (by omega), mu_at, if_neg (by omega), ← ht1, mu_row (by omega), mu_at, if_pos (by omega)]
    · rw [← ht4, mu_row (by omega), mu_at, if_neg (by omega), ← ht3, mu_row (by omega), mu_at, if_neg (by omega), ← ht2, mu_row (by omega), mu_at, if_pos (by omega)]
    · rw [← ht4, mu_row (by omega), mu_at, if_neg (by omega), ← ht3, mu_row (by omega), mu_at, if_pos (by omega)]
    · rw [← ht4, mu_row (by omega), mu_at, if_pos (by omega)]
  · intro k hk
    rw [← ht4, mu_row (by omega), mu_at, if_neg (by omega), ← ht3, mu_row (by omega), mu_at, if_neg (by omega), ← ht2, mu_row (by omega), mu_at, if_neg (by omega), ← ht1, mu_row (by omega), mu_at, if_neg (by omega)]
  · intro k hk
    rw [← ht4, mu_at, if_neg (by omega), mu_row (by omega), ← ht3, mu_at, if_neg (by omega), mu_row (by omega), ← ht2, mu_at, if_neg (by omega), mu_row (by omega), ← ht1, mu_at, if_neg (by omega), mu_row (by omega)]
  · intro o o1 o2
    rw [← ht4, mu_row o1, mu_row o2, ← ht3, mu_row o1, mu_row o2, ← ht2, mu_row o1, mu_row o2, ← ht1, mu_row o1, mu_row o2]
/-- five ints, one behind the other -/
def xk (x1 x2 x3 x4 x5 : Int32) (m : Nat) : Int32 := if m = 0 then x1 else if m = 1 then x2 else if m = 2 then x3 else if m = 3 then x4 else x5
theorem e_feed {σ : MS} {n L : Nat} (x1 x2 x3 x4 x5 : Int32) (hn : 6000 ≤ n) (hL : L + 20 ≤ 400) (h : σ 1 1 = nN L) : ∃ τ, f_X11_feed n x1 x2 x3 x4 x5 σ = some (nN (L + 20), τ) ∧ τ 1 1 = nN (L + 20) ∧ (∀ k, k < 20 → τ 2 (L + k) = ushI (xk x1 x2 x3 x4 x5 (k / 4)) (nN (24 - 8 * (k % 4))) &&& 255) ∧ (∀ k, k < L → τ 2 k = σ 2 k) ∧ (∀ o, o ≠ 1 → o ≠ 2 → τ o = σ o) := by
  obtain ⟨t1, a1, a2, a3, a4, a5, a6⟩ := e_append x1 hn (show L + 4 ≤ 400 by omega) h
  obtain ⟨t2, b1, b2, b3, b4, b5, b6⟩ := e_append x2 hn (show L + 4 + 4 ≤ 400 by omega) a2
  obtain ⟨t3, c1, c2, c3, c4, c5, c6⟩ := e_append x3 hn (show L + 4 + 4 + 4 ≤ 400 by omega) b2
  obtain ⟨t4, d1, d2, d3, d4, d5, d6⟩ := e_append x4 hn (show L + 4 + 4 + 4 + 4 ≤ 400 by omega) c2
  obtain ⟨t5, f1, f2, f3, f4, f5, f6⟩ := e_append x5 hn (show L + 4 + 4 + 4 + 4 + 4 ≤ 400 by omega) d2
  refine ⟨t5, ?_, f2, ?_, ?_, ?_⟩
  · simp (disch := omega) only [f_X11_feed, h, l20, nN_add, l400, le_t, if_true, a1, b1, c1, d1, f1, bnd_s, f2]
  · intro k hk
    have hq := Nat.mod_lt k (show 0 < 4 by omega)
    have hm : k / 4 = 0 ∨ k / 4 = 1 ∨ k / 4 = 2 ∨ k / 4 = 3 ∨ k / 4 = 4 := by omega
    rcases hm with hh | hh | hh | hh | hh
    · rw [hh, f4 _ (by omega), d4 _ (by omega), c4 _ (by omega), b4 _ (by omega), show L + k = L + k % 4 by omega, a3 _ hq]
      rfl
    · rw [hh, f4 _ (by omega), d4 _ (by omega), c4 _ (by omega), show L + k = L + 4 + k % 4 by omega, b3 _ hq]
      rfl
    · rw [hh, f4 _ (by omega), d4 _ (by omega), show L + k = L + 4 + 4 + k % 4 by omega, c3 _ hq]
      rfl
    · rw [hh, f4 _ (by omega), show L + k = L + 4 + 4 + 4 + k % 4 by omega, d3 _ hq]
      rfl
    · rw [hh, show L + k = L + 4 + 4 + 4 + 4 + k % 4 by omega, f3 _ hq]
      rfl
  · intro k hk
    rw [f4 _ (by omega), d4 _ (by omega), c4 _ (by omega), b4 _ (by omega), a4 _ (by omega)]
  · intro o o1 o2
    rw [f6 o o1 o2, d6 o o1 o2, c6 o o1 o2, b6 o o1 o2, a6 o o1 o2]
theorem fd_fold {σ : MS} {L : Nat} (vl : Nat → Int32) : ∀ N k, fR N (fun i s => mu s 177 (L + i) (vl i)) σ 177 k = if L ≤ k ∧ k < L + N then vl (k - L) else σ 177 k := by
  intro N
  induction N with
  | zero => intro k; rw [fR_0, if_neg (by omega)]
  | succ N ih =>
    intro k
    rw [fR_s, mu_own, ih]
    by_cases c : k = L + N
    · rw [if_pos c, if_pos (by omega), c]
      congr 1
      omega
    · rw [if_neg c]
      by_cases d : L ≤ k ∧ k < L + N
      · rw [if_pos d, if_pos (by omega)]
      · rw [if_neg d, if_neg (by omega)]
theorem fd_row {σ : MS} {L o : Nat} (vl : Nat → Int32) (ho : o ≠ 177) : ∀ N, fR N (fun i s => mu s 177 (L + i) (vl i)) σ o = σ o := by
  intro N
  induction N with
  | zero => rfl
  | succ N ih => rw [fR_s, mu_row ho, ih]
theorem e_feed2 {σ : MS} {n L : Nat} (x1 x2 x3 x4 x5 : Int32) (hn : 6000 ≤ n) (hL : L + 20 ≤ 400) (h : σ 171 9 = nN L) : ∃ τ, f_X12_feed n x1 x2 x3 x4 x5 σ = some (nN (L + 20), τ) ∧ τ 171 9 = nN (L + 20) ∧ (∀ k, k ≠ 0 → k ≠ 9 → τ 171 k = σ 171 k) ∧ (∀ k, k < 20 → τ 177 (L + k) = b2b (b2b (shrI (xk x1 x2 x3 x4 x5 (k / 4)) (nN (24 - 8 * (k % 4)))))) ∧ (∀ k, k < L → τ 177 k = σ 177 k) ∧ (∀ o, o ≠ 171 → o ≠ 177 → o ≠ 178 → τ o = σ o) := by
  have h9 : mu σ 171 0 0 171 9 = nN L := by rw [mu_at, if_neg (by omega)]; exact h
  simp (disch := omega) only [f_X12_feed, ltM_s, h9, l20, nN_add, l400, le_t, if_true]
  generalize hs : mu (mu (mu (mu (mu (mu σ 171 0 0) 178 0 x1) 178 1 x2) 178 2 x3) 178 3 x4) 178 4 x5 = s0
  have z9 : s0 171 9 = nN L := by
    rw [← hs, mu_row (by omega), mu_row (by omega), mu_row (by omega), mu_row (by omega), mu_row (by omega)]
    exact h9
  have zr : ∀ o, o ≠ 171 → o ≠ 178 → s0 o = σ o := by
    intro o o1 o2
    rw [← hs, mu_row o2, mu_row o2, mu_row o2, mu_row o2, mu_row o2, mu_row o1]
  have z171 : ∀ k, k ≠ 0 → s0 171 k = σ 171 k := by
    intro k hk
    rw [← hs, mu_row (by omega), mu_row (by omega), mu_row (by omega), mu_row (by omega), mu_row (by omega), mu_at, if_neg (by omega)]
  have z178 : ∀ m, m < 5 → s0 178 m = xk x1 x2 x3 x4 x5 m := by
    intro m hm
    have hm' : m = 0 ∨ m = 1 ∨ m = 2 ∨ m = 3 ∨ m = 4 := by omega
    rcases hm' with hh | hh | hh | hh | hh <;> subst hh <;> rw [← hs] <;> simp only [mu_own] <;> rfl
  have key := itr_0P (f := L_X12_feed_60 n σ) (n := n) (fun (s : MS) i => (i, s)) 20 (fun i s => mu s 177 (L + i) (b2b (b2b (shrI (xk x1 x2 x3 x4 x5 (i / 4)) (nN (24 - 8 * (i % 4))))))) (fun s => (nN (L + 20), mu s 171 9 (nN (L + 20)))) (fun _ s => s 171 9 = nN L ∧ s 178 = s0 178) (by omega) s0 ⟨z9, rfl⟩ ?_ ?_
  · refine ⟨_, key, ?_, ?_, ?_, ?_, ?_⟩
    · rw [mu_own]; rfl
    · intro k k1 k2
      rw [mu_at, if_neg (by omega), fd_row _ (by omega), z171 k k1]
    · intro k hk
      rw [mu_row (by omega), fd_fold, if_pos (by omega), show L + k - L = k by omega]
    · intro k hk
      rw [mu_row (by omega), fd_fold, if_neg (by omega), zr 177 (by omega) (by omega)]
    · intro o o1 o2 o3
      rw [mu_row o1, fd_row _ o2, zr o o1 o3]
  · intro i s hi ⟨hs9, hs178⟩
    refine ⟨?_, by rw [mu_row (show 171 ≠ 177 by omega)]; exact hs9, by rw [mu_row (show 178 ≠ 177 by omega)]; exact hs178⟩
    have hq := Nat.mod_lt i (show 0 < 4 by omega)
    have hm : i / 4 < 5 := by omega
    have e1 : nN i / 4 = nN (i / 4) := by rw [l4, nN_div (by omega) (by omega)]
    have e2 : remI (nN i) 4 = nN (i % 4) := by rw [l4, remI_nN (by omega) (by omega)]
    have e3 : (24 : Int32) - 8 * nN (i % 4) = nN (24 - 8 * (i % 4)) := by
      rw [l8, nN_mul, show (24 : Int32) = nN 24 from rfl, nN_sub (by omega)]
    simp (disch := omega) only [L_X12_feed_60, l20, le_f, if_false, e1, e2, e3, hs9, nN_add, inb_nN, ix_nN, it_t, if_true, ltM_s, nN_s, hs178, z178]
  · intro s ⟨hs9, hs178⟩
    have m9 : mu s 171 9 (nN (L + 20)) 171 9 = nN (L + 20) := by rw [mu_own]; rfl
    simp (disch := omega) only [L_X12_feed_60, l20, le_t, if_true, hs9, nN_add, ltM_s, Option.map_some, m9]
theorem Inv_tape {j L : Nat} {σ υ : MS} (hI : Inv j σ) (h1 : ∀ o, es o = true → o ≠ 2 → o ≠ 177 → υ o = σ o) (h4 : υ 171 6 = σ 171 6) (h5 : υ 171 7 = σ 171 7) (h7 : υ 171 14 = σ 171 14) (hL : L ≤ 400) (t1 : υ 1 1 = nN L) (t2 : υ 171 9 = nN L) (t3 : ∀ i, i < L → ∃ b, b < 256 ∧ υ 2 i = nN b ∧ υ 177 i = sb b) : Inv (j + 1) υ := by
  obtain ⟨i1, i2, i3, ⟨a, c, k1, k2, k3, k4, k5, k6⟩, -, i6⟩ := hI
  have v0 : υ 0 = σ 0 := h1 0 (es_t (by omega)) (by omega) (by omega)
  have v172 : υ 172 = σ 172 := h1 172 (es_t (by omega)) (by omega) (by omega)
  have v176 : υ 176 = σ 176 := h1 176 (es_t (by omega)) (by omega) (by omega)
  refine ⟨?_, ?_, ?_, ⟨a, c, k1, k2, by rw [v0]; exact k3, by rw [v0]; exact k4, by rw [h5]; exact k5, ?_⟩, ⟨L, hL, t1, t2, t3⟩, by rw [v0, h7]; exact i6⟩
  · rw [v172]
    exact HR_mono (HR_same i1 (fun k hk => h1 (3 + k) (es_t (by omega)) (by omega) (by omega)) (fun _ _ => rfl)) (by omega)
  · rw [v172]
    exact LWR_same i2 (fun k hk => h1 (30 + k) (es_t (by omega)) (by omega) (by omega)) (fun _ _ _ => rfl)
  · rw [v0, h4, h1 173 (es_t (by omega)) (by omega) (by omega)]
    rcases i3 with h | ⟨p1, p2, p3, p4⟩
    · exact Or.inl h
    · exact Or.inr ⟨p1, p2, HR_mono (HR_same p3 (fun k hk => h1 (21 + k) (es_t (by omega)) (by omega) (by omega)) (fun _ _ => rfl)) (by omega), LWR_same p4 (fun k hk => h1 (44 + k) (es_t (by omega)) (by omega) (by omega)) (fun _ _ _ => rfl)⟩
  · intro i hi
    have hm := Nat.mod_lt (a + i) (show 0 < 12 by omega)
    rw [v176, v172]
    exact ⟨HR_mono (HR_same (k6 i hi).1 (fun k hk => h1 (63 + 9 * ((a + i) % 12) + k) (es_t (by omega)) (by omega) (by omega)) (fun _ _ => rfl)) (by omega), (k6 i hi).2⟩
theorem s_0 {j n : Nat} {σ : MS} {x1 x2 x3 x4 x5 : Int32} (hn : 6000 ≤ n) (hI : Inv j σ) : ∃ τ, step_0 n x1 x2 x3 x4 x5 σ = some τ ∧ Inv (j + 1) τ := by
  have hI' := hI
  obtain ⟨-, -, -, -, ⟨L, m1, m2, m3, m4⟩, -⟩ := hI
  unfold step_0
  by_cases c : L + 20 ≤ 400
  · obtain ⟨t, a1, a2, a3, a4, a5⟩ := e_feed x1 x2 x3 x4 x5 hn c m2
    obtain ⟨υ, b1, b2, b3, b4, b5, b6⟩ := e_feed2 (σ := t) x1 x2 x3 x4 x5 hn c (by rw [a5 171 (by omega) (by omega)]; exact m3)
    rw [a1]
    simp only [bnd_s, b1, if_true]
    refine ⟨υ, rfl, Inv_tape (L := L + 20) hI' ?_ ?_ ?_ ?_ c ?_ b2 ?_⟩
    · intro o ho n1 n2
      have k1 : o ≠ 171 := by intro h; rw [h] at ho; revert ho; decide
      have k2 : o ≠ 178 := by intro h; rw [h] at ho; revert ho; decide
      have k3 : o ≠ 1 := by intro h; rw [h] at ho; revert ho; decide
      rw [b6 o k1 n2 k2, a5 o k3 n1]
    · rw [b3 6 (by omega) (by omega), a5 171 (by omega) (by omega)]
    · rw [b3 7 (by omega) (by omega), a5 171 (by omega) (by omega)]
    · rw [b3 14 (by omega) (by omega), a5 171 (by omega) (by omega)]
    · rw [b6 1 (by omega) (by omega) (by omega)]
      exact a2
    · intro i hi
      rw [b6 2 (by omega) (by omega) (by omega)]
      by_cases d : i < L
      · rw [a4 i d, b5 i d, a5 177 (by omega) (by omega)]
        exact m4 i d
      · have hk : i = L + (i - L) := by omega
        have hq := Nat.mod_lt (i - L) (show 0 < 4 by omega)
        rw [hk, a3 _ (by omega), b4 _ (by omega)]
        exact byte_ok _ hq
  · have h9 : mu σ 171 0 0 171 9 = nN L := by rw [mu_at, if_neg (by omega)]; exact m3
    simp (disch := omega) only [f_X11_feed, m2, l20, nN_add, l400, le_f, if_false, bnd_s, f_X12_feed, ltM_s, h9, if_true]
    exact ⟨_, rfl, Inv_mono (Inv_same hI' (Sm_thr σ 0)) (by omega)⟩
theorem s_1 {j n : Nat} {σ : MS} {x1 x2 x3 x4 x5 : Int32} (hn : 6000 ≤ n) (hI : Inv j σ) : ∃ τ, step_1 n x1 x2 x3 x4 x5 σ = some τ ∧ Inv (j + 1) τ := by
  have hI' := hI
  obtain ⟨-, -, -, -, ⟨L, m1, m2, m3, m4⟩, -⟩ := hI
  unfold step_1
  have h9 : mu σ 171 0 0 171 9 = nN L := by rw [mu_at, if_neg (by omega)]; exact m3
  by_cases c : x1 < 0
  · simp only [f_X11_end, J_X11_end_15, f_X12_end, J_X12_end_17, c, if_true, bnd_s, ltM_s]
    exact ⟨_, rfl, Inv_mono (Inv_same hI' (Sm_thr σ 0)) (by omega)⟩
  · have c' : (0 : Int32) ≤ x1 := by rw [← Int32.not_lt]; exact c
    rw [Int32.le_iff_toInt_le] at c'
    have z : (0 : Int32).toInt = 0 := rfl
    rw [z] at c'
    obtain ⟨k, hk, -, -, hk2⟩ := nN_of (x := x1) (a := 0) (b := x1.toInt) (by omega) c' (by omega)
    subst hk
    by_cases d : k ≤ L
    · have d' : (nN k ≤ nN L) = True := le_t d (by omega)
      have h9' : mu (mu σ 1 1 (nN k)) 171 0 0 171 9 = nN L := by rw [mu_at, if_neg (by omega), mu_row (by omega)]; exact m3
      simp only [f_X11_end, J_X11_end_15, f_X12_end, J_X12_end_17, c, if_false, m2, d', if_true, bnd_s, ltM_s, h9']
      refine ⟨_, rfl, Inv_tape (L := k) hI' ?_ ?_ ?_ ?_ (by omega) ?_ ?_ ?_⟩
      · intro o ho n1 n2
        have k1 : o ≠ 171 := by intro h; rw [h] at ho; revert ho; decide
        have k3 : o ≠ 1 := by intro h; rw [h] at ho; revert ho; decide
        rw [mu_row k1, mu_row k1, mu_row k3]
      · rw [mu_at, if_neg (by omega), mu_at, if_neg (by omega), mu_row (by omega)]
      · rw [mu_at, if_neg (by omega), mu_at, if_neg (by omega), mu_row (by omega)]
      · rw [mu_at, if_neg (by omega), mu_at, if_neg (by omega), mu_row (by omega)]
      · rw [mu_row (by omega), mu_row (by omega), mu_own]
        rfl
      · rw [mu_own]
        rfl
      · intro i hi
        rw [mu_row (by omega), mu_row (by omega), mu_row (by omega), mu_row (by omega), mu_row (by omega), mu_row (by omega)]
        exact m4 i (by omega)
    · have d' : (nN k ≤ nN L) = False := le_f (by omega) hk2
      simp only [f_X11_end, J_X11_end_15, f_X12_end, J_X12_end_17, c, if_false, m2, d', bnd_s, ltM_s, h9, if_true]
      exact ⟨_, rfl, Inv_mono (Inv_same hI' (Sm_thr σ 0)) (by omega)⟩
