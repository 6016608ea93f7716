section VCO
variable {y : MD} {w : TG} {g : VG} {kc ks : Nat} {Q : State → Prop} {pc : Nat} {vs : List (Option Value)} {rest : List Value} {es : List va_E}
theorem C_new {own C : String} {T : u_T} {N ci index : Nat} {fs : List Value} (hcl5 : cls5[ci]? = some (C, T, N)) (hin : ∀ t ∈ u_ws C T N, t ∈ gtb) (ty : Nat → FieldType) (hty : ∀ k, k < N → parseFieldDescriptor (T k).2.2.1 = some (ty k)) (ho : y.1.cls = own) (hw1 : Cond.classLink own index C ∈ gtb) (hw2 : Cond.instantiable C N ∈ gtb) (hw3 : Cond.initialized C ∈ gtb) (hfs : ∀ j, j < N → defaultValue (ty j) = vp_V fs j) (hd : decode y.2.1 pc = .ok (.new index, 3)) (hc : kc + 1 ≤ y.2.2.2.2.2.2.1) (hs : ks + N ≤ y.2.2.2.2.2.2.2)
    (k : VC y w g (kc + 1) (ks + N) Q (pc + 3) vs (.ref (wB w + es.length) :: rest) (es ++ [.inr (ci, fs)])) : VC y w g kc ks Q pc vs rest es := by
  intro ok H locs ls hP hz hS hl'
  subst ho
  have hKn := ok.2.2.2.2.2.2.2.1.1 ci _ hcl5
  refine W.newcK ok.1 ok.2.1 ok.2.2.2.1 (ok.2.2.2.2.1 _ hw1) (ok.2.2.2.2.1 _ hw2) (ok.2.2.2.2.1 _ hw3) rfl hd (by rw [ok.2.2.2.2.2.2.2.2.2.2.2.1]; exact hc) (by rw [ok.2.2.2.2.2.2.2.2.2.2.2.2.1]; exact hs) hKn.2.1 hz fun H1 kC hkC e1 z1 o1 => ?_
  obtain ⟨p1, p2, p3⟩ := C_push (g := g) (e := .inr (ci, fs)) hP hz hS (by omega) (fun q hq => o1 q (by omega)) (by rw [hz]; exact ⟨_, hcl5, (u_born ty ok.2.2.2.2.1 hin hKn hkC e1 hty).to hfs⟩)
  exact k ok H1 locs ls p1 p2 p3 hl'
end VCO
