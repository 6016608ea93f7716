section VCN
variable {y : MD} {w : TG} {g : VG} {kc ks : Nat} {Q : State → Prop} {pc : Nat} {vs : List (Option Value)} {rest : List Value} {es : List va_E}
theorem C_push {H H1 : Heap} {locs : List Loc} {e : va_E} (hP : va_P (wD w) cls5 (wse w es) H) (hz : H.size = wB w + es.length) (hS : va_S (wA w) (gS g).heap H locs) (z1 : H1.size = H.size + 1) (o1 : ∀ q, q < H.size → H1[q]? = H[q]?) (hc : va_at (wD w) cls5 (H.size, e) H1) : va_P (wD w) cls5 (wse w (es ++ [e])) H1 ∧ H1.size = wB w + (es ++ [e]).length ∧ va_S (wA w) (gS g).heap H1 locs := by
  have hk : ∀ (k : Nat) (x : Nat × va_E), (wse w es)[k]? = some x → H1[x.1]? = H[x.1]? := fun k x hx => o1 x.1 ((hP k x hx).lt)
  refine ⟨?_, by rw [z1, hz, List.length_append]; rfl, Nat.le_trans hS.1 (by omega), fun x h1 h2 => (o1 x (Nat.lt_of_lt_of_le h1 hS.1)).trans (hS.2.1 x h1 h2), hS.2.2⟩
  rw [← wse_push]
  refine (hP.kept hk).app (fun k x hx => ?_)
  have hz9 : k < 1 := (List.getElem?_eq_some_iff.mp hx).1
  rw [show k = 0 by omega] at hx
  cases hx
  rw [← hz]
  exact hc
theorem C_newi {n : Int32} {N : Nat} (hw : Cond.arrayClass .int ∈ gtb) (hd : decode y.2.1 pc = .ok (.newarray .int, 2)) (hn : ¬ n < 0) (hN : n.toNatClampNeg = N) (hN2 : N ≤ 100000) (hc : kc + 1 ≤ y.2.2.2.2.2.2.1) (hs : ks + N ≤ y.2.2.2.2.2.2.2) (k : VC y w g (kc + 1) (ks + N) Q (pc + 2) vs (.ref (wB w + es.length) :: rest) (es ++ [.inl (w.2.1.1, N, .inl (fun _ => 0))])) : VC y w g kc ks Q pc vs (.int n :: rest) es := by
  intro ok H locs ls hP hz hS hl'
  refine va_newaK ok.1 ok.2.1 (atype := .int) (ok.2.2.2.2.1 _ hw) rfl hd rfl hn hN (by show N * 4 ≤ _; omega) (by rw [ok.2.2.2.2.2.2.2.2.2.2.2.1]; exact hc) (by rw [ok.2.2.2.2.2.2.2.2.2.2.2.2.1]; exact hs) hz fun H1 cA e1 z1 o1 hAr hNm => ?_
  have hcA : cA = w.2.1.1 := by
    have h1 := (ok.2.2.2.2.2.2.2.1.2 0 (w.2.1.1, .int) rfl).2
    exact Option.some.inj (hNm.symm.trans h1)
  subst hcA
  obtain ⟨p1, p2, p3⟩ := C_push (g := g) (e := .inl (w.2.1.1, N, .inl (fun _ => 0))) hP hz hS (by omega) (fun q hq => o1 q (by omega)) (by rw [hz]; exact e1)
  exact k ok H1 locs ls p1 p2 p3 hl'
end VCN
