/-! the making of the world: cells come one behind another from B on -/
def wse (w : TG) (es : List va_E) : va_W := (List.range es.length).map (fun k => (wB w + k, es.getD k (.inr (0, []))))
theorem wse_at {w : TG} {es : List va_E} {k : Nat} {e : va_E} (h : es[k]? = some e) : (wse w es)[k]? = some (wB w + k, e) := by
  have hk : k < es.length := (List.getElem?_eq_some_iff.mp h).1
  have h2 : es[k] = e := (List.getElem?_eq_some_iff.mp h).2
  simp [wse, hk, List.getD, h2]
theorem wse_len (w : TG) (es : List va_E) : (wse w es).length = es.length := by simp [wse]
theorem wse_get {w : TG} {es : List va_E} {k : Nat} {q : Nat × va_E} (h : (wse w es)[k]? = some q) : q.1 = wB w + k ∧ es[k]? = some q.2 := by
  have hk : k < es.length := by
    have := (List.getElem?_eq_some_iff.mp h).1
    rwa [wse_len] at this
  have h2 := wse_at (w := w) (List.getElem?_eq_getElem hk)
  rw [h2] at h
  cases h
  exact ⟨rfl, List.getElem?_eq_getElem hk⟩
theorem wse_D (w : TG) (es : List va_E) : va_D (wA w) (wse w es) := by
  refine ⟨fun i j p q hi hj hpq => ?_, fun k q hk => ?_⟩
  · have h1 := (wse_get hi).1
    have h2 := (wse_get hj).1
    omega
  · have h1 := (wse_get hk).1
    show wB w ≤ q.1
    omega
theorem wse_ext {w : TG} {es : List va_E} {ws : va_W} (hl : ws.length = es.length) (h : ∀ k e, es[k]? = some e → ws[k]? = some (wB w + k, e)) : ws = wse w es := by
  apply List.ext_getElem?
  intro k
  by_cases hk : k < es.length
  · rw [h k _ (List.getElem?_eq_getElem hk), wse_at (List.getElem?_eq_getElem hk)]
  · rw [List.getElem?_eq_none (by omega), List.getElem?_eq_none (by rw [wse_len]; omega)]
theorem wse_set {w : TG} {es : List va_E} {k : Nat} {e : va_E} (hk : k < es.length) : (wse w es).set k (wB w + k, e) = wse w (es.set k e) := by
  apply wse_ext
  · simp [wse_len]
  · intro j e' hj
    by_cases hjk : j = k
    · subst hjk
      rw [List.getElem?_set_self hk] at hj
      cases hj
      rw [List.getElem?_set_self (by rw [wse_len]; exact hk)]
    · rw [List.getElem?_set_ne (Ne.symm hjk)] at hj ⊢
      exact wse_at hj
theorem wse_push {w : TG} {es : List va_E} {e : va_E} : wse w es ++ [(wB w + es.length, e)] = wse w (es ++ [e]) := by
  apply wse_ext
  · simp [wse_len]
  · intro j e' hj
    by_cases hjk : j < es.length
    · rw [List.getElem?_append_left hjk] at hj
      rw [List.getElem?_append_left (by rw [wse_len]; exact hjk)]
      exact wse_at hj
    · rw [List.getElem?_append_right (by omega)] at hj
      have hz : j - es.length < 1 := (List.getElem?_eq_some_iff.mp hj).1
      have hj0 : j = es.length := by omega
      subst hj0
      rw [List.getElem?_append_right (by rw [wse_len]; omega), wse_len]
      simp at hj ⊢
      exact hj
/-- at pc, with such locals and stack, and these cells made -/
def VC (y : MD) (w : TG) (g : VG) (kc ks : Nat) (Q : State → Prop) (pc : Nat) (vs : List (Option Value)) (st : List Value) (es : List va_E) : Prop :=
  Okm y w g → ∀ (H : Heap) (locs : List Loc) (ls : Array Slot), va_P (wD w) cls5 (wse w es) H → H.size = wB w + es.length → va_S (wA w) (gS g).heap H locs → lh ls y.2.2.1 vs → WW g H locs kc ks Q (F0 (gM g) pc ls st)
section VCR
variable {y : MD} {w : TG} {g : VG} {kc ks : Nat} {Q : State → Prop} {pc : Nat} {vs : List (Option Value)} {rest : List Value} {es : List va_E}
theorem C_aload_n {j : Fin 4} {i x : Nat} (hd : decode y.2.1 pc = .ok (.aload_n j, 1)) (hi : (j : Nat) = i) (hl : vs[i]? = some (some (.ref x))) (k : VC y w g kc ks Q (pc + 1) vs (.ref x :: rest) es) : VC y w g kc ks Q pc vs rest es :=
  fun ok H locs ls hP hz hS hl' => lv_aload_n ok.1 ok.2.1 hd hi (hl'.2.2 _ _ hl).1 (k ok H locs ls hP hz hS hl')
theorem C_dup {v : Value} (hd : decode y.2.1 pc = .ok (.dup, 1)) (hv : v.category = 1) (k : VC y w g kc ks Q (pc + 1) vs (v :: v :: rest) es) : VC y w g kc ks Q pc vs (v :: rest) es :=
  fun ok H locs ls hP hz hS hl' => lv_dup ok.1 ok.2.1 hd hv (k ok H locs ls hP hz hS hl')
theorem C_iconst {n : Int} {v : Int32} (hd : decode y.2.1 pc = .ok (.iconst n, 1)) (hv : Int32.ofInt n = v) (k : VC y w g kc ks Q (pc + 1) vs (.int v :: rest) es) : VC y w g kc ks Q pc vs rest es :=
  fun ok H locs ls hP hz hS hl' => lv_iconst ok.1 ok.2.1 hd hv (k ok H locs ls hP hz hS hl')
theorem C_bipush {n : Int} {v : Int32} (hd : decode y.2.1 pc = .ok (.bipush n, 2)) (hv : (Int8.ofInt n).toInt32 = v) (k : VC y w g kc ks Q (pc + 2) vs (.int v :: rest) es) : VC y w g kc ks Q pc vs rest es :=
  fun ok H locs ls hP hz hS hl' => lv_bipush ok.1 ok.2.1 hd hv (k ok H locs ls hP hz hS hl')
theorem C_sipush {n : Int} {v : Int32} (hd : decode y.2.1 pc = .ok (.sipush n, 3)) (hv : (Int16.ofInt n).toInt32 = v) (k : VC y w g kc ks Q (pc + 3) vs (.int v :: rest) es) : VC y w g kc ks Q pc vs rest es :=
  fun ok H locs ls hP hz hS hl' => lv_sipush ok.1 ok.2.1 hd hv (k ok H locs ls hP hz hS hl')
theorem C_widen {st : List Value} {kc' ks' : Nat} (h1 : kc ≤ kc') (h2 : ks ≤ ks') (k : VC y w g kc' ks' Q pc vs st es) : VC y w g kc ks Q pc vs st es :=
  fun ok H locs ls hP hz hS hl' => W.widen h1 h2 (k ok H locs ls hP hz hS hl')
end VCR
