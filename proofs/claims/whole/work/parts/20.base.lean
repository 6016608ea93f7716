/-! layer 2: what the functions compute. Loops. -/
theorem itr_inv {α β : Type} {f : α → Option (α ⊕ β)} (P : Nat → α → Prop) (R : β → Prop) (N : Nat)
    (hstep : ∀ (i : Nat) (a : α), i < N → P i a → (∃ a', f a = some (.inl a') ∧ P (i + 1) a') ∨ ∃ b, f a = some (.inr b) ∧ R b)
    (hlast : ∀ a : α, P N a → ∃ b, f a = some (.inr b) ∧ R b) : ∀ (n i : Nat) (a : α), i ≤ N → N - i < n → P i a → ∃ b, itr f n a = some b ∧ R b := by
  intro n
  induction n with
  | zero => intro i a _ h; omega
  | succ n ih =>
    intro i a hi hn hP
    by_cases h : i = N
    · subst h
      obtain ⟨b, hb, hR⟩ := hlast a hP
      exact ⟨b, by simp [itr, hb], hR⟩
    · rcases hstep i a (by omega) hP with ⟨a', ha, hP'⟩ | ⟨b, hb, hR⟩
      · obtain ⟨b, hb, hR⟩ := ih (i + 1) a' (by omega) (by omega) hP'
        exact ⟨b, by simp [itr, ha, hb], hR⟩
      · exact ⟨b, by simp [itr, hb], hR⟩
/-- a loop that counts: its state at round i is st i -/
theorem itr_count {α β : Type} {f : α → Option (α ⊕ β)} (st : Nat → α) (N : Nat) (b : β) (hstep : ∀ i, i < N → f (st i) = some (.inl (st (i + 1)))) (hlast : f (st N) = some (.inr b)) : ∀ (n i : Nat), i ≤ N → N - i < n → itr f n (st i) = some b := by
  intro n i hi hn
  obtain ⟨b', hb, rfl⟩ := itr_inv (f := f) (fun i a => a = st i) (fun b' => b' = b) N (fun i a hi ha => Or.inl ⟨st (i + 1), by rw [ha]; exact hstep i hi, rfl⟩) (fun a ha => ⟨b, by rw [ha]; exact hlast, rfl⟩) n i (st i) hi hn rfl
  exact hb
theorem mu_at (σ : MS) (o k : Nat) (v : Int32) (a j : Nat) : mu σ o k v a j = if a = o ∧ j = k then v else σ a j := by
  by_cases h : a = o
  · subst h
    by_cases h2 : j = k <;> simp [mu, va_up, upd, h2]
  · simp [mu, va_up, h]
