section VCN2
variable {y : MD} {w : TG} {g : VG} {kc ks : Nat} {Q : State → Prop} {pc : Nat} {vs : List (Option Value)} {rest : List Value} {es : List va_E}
theorem C_newb {n : Int32} {N : Nat} (hw : Cond.arrayClass .byte ∈ gtb) (hd : decode y.2.1 pc = .ok (.newarray .byte, 2)) (hn : ¬ n < 0) (hN : n.toNatClampNeg = N) (hN2 : N ≤ 100000) (hc : kc + 1 ≤ y.2.2.2.2.2.2.1) (hs : ks + N ≤ y.2.2.2.2.2.2.2) (k : VC y w g (kc + 1) (ks + N) Q (pc + 2) vs (.ref (wB w + es.length) :: rest) (es ++ [.inl (w.2.1.2.1, N, .inl (fun _ => 0))])) : VC y w g kc ks Q pc vs (.int n :: rest) es := by
  intro ok H locs ls hP hz hS hl'
  refine va_newaK ok.1 ok.2.1 (atype := .byte) (ok.2.2.2.2.1 _ hw) rfl hd rfl hn hN (by show N * 1 ≤ _; omega) (by rw [ok.2.2.2.2.2.2.2.2.2.2.2.1]; exact hc) (by rw [ok.2.2.2.2.2.2.2.2.2.2.2.2.1]; exact hs) hz fun H1 cA e1 z1 o1 hAr hNm => ?_
  have hcA : cA = w.2.1.2.1 := by
    have h1 := (ok.2.2.2.2.2.2.2.1.2 1 (w.2.1.2.1, .byte) rfl).2
    exact Option.some.inj (hNm.symm.trans h1)
  subst hcA
  obtain ⟨p1, p2, p3⟩ := C_push (g := g) (e := .inl (w.2.1.2.1, N, .inl (fun _ => 0))) hP hz hS (by omega) (fun q hq => o1 q (by omega)) (by rw [hz]; exact e1)
  exact k ok H1 locs ls p1 p2 p3 hl'
theorem C_newl {n : Int32} {N : Nat} (hw : Cond.arrayClass .long ∈ gtb) (hd : decode y.2.1 pc = .ok (.newarray .long, 2)) (hn : ¬ n < 0) (hN : n.toNatClampNeg = N) (hN2 : N ≤ 100000) (hc : kc + 1 ≤ y.2.2.2.2.2.2.1) (hs : ks + N ≤ y.2.2.2.2.2.2.2) (k : VC y w g (kc + 1) (ks + N) Q (pc + 2) vs (.ref (wB w + es.length) :: rest) (es ++ [.inl (w.2.1.2.2.1, N, .inr (.inl (fun _ => 0)))])) : VC y w g kc ks Q pc vs (.int n :: rest) es := by
  intro ok H locs ls hP hz hS hl'
  refine va_newaK ok.1 ok.2.1 (atype := .long) (ok.2.2.2.2.1 _ hw) rfl hd rfl hn hN (by show N * 8 ≤ _; omega) (by rw [ok.2.2.2.2.2.2.2.2.2.2.2.1]; exact hc) (by rw [ok.2.2.2.2.2.2.2.2.2.2.2.2.1]; exact hs) hz fun H1 cA e1 z1 o1 hAr hNm => ?_
  have hcA : cA = w.2.1.2.2.1 := by
    have h1 := (ok.2.2.2.2.2.2.2.1.2 2 (w.2.1.2.2.1, .long) rfl).2
    exact Option.some.inj (hNm.symm.trans h1)
  subst hcA
  obtain ⟨p1, p2, p3⟩ := C_push (g := g) (e := .inl (w.2.1.2.2.1, N, .inr (.inl (fun _ => 0)))) hP hz hS (by omega) (fun q hq => o1 q (by omega)) (by rw [hz]; exact e1)
  exact k ok H1 locs ls p1 p2 p3 hl'
end VCN2
