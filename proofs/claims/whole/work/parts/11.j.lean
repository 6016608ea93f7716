theorem C_obj {y : MD} {w : TG} {g : VG} {kc ks : Nat} {Q : State → Prop} {pc : Nat} {vs : List (Option Value)} {es : List va_E} {own : String} {idx a : Nat} (ho : y.1.cls = own) (hw1 : Cond.methodLink own idx Lib.objectInit ∈ gtb) (hw2 : Cond.instanceMethod Lib.objectInit ∈ gtb) (hw3 : Cond.code Lib.objectInit ⟨#[0xb1]⟩ 1 none ∈ gtb) (hd : decode y.2.1 pc = .ok (.invokespecial idx, 3)) (hF : 1 ≤ y.2.2.2.2.1) (hL : 12 ≤ y.2.2.2.2.2.1) (k : VC y w g kc ks Q (pc + 3) vs [] es) : VC y w g kc ks Q pc vs [.ref a] es := by
  intro ok H locs ls hP hz hS hl'
  subst ho
  refine W.objInit ok.1 ok.2.1 ok.2.2.2.1 (ok.2.2.2.2.1 _ hw1) (ok.2.2.2.2.1 _ hw2) (ok.2.2.2.2.1 _ hw3) rfl (hl'.1.trans ok.2.2.1.symm) rfl hd (by rw [ok.2.2.2.2.2.2.2.2.2.1]; exact hF) (by rw [ok.2.2.2.2.2.2.2.2.2.2.1]; simpa [JFrame.monitorRoom] using hL) ?_
  exact k ok H locs ls hP hz hS hl'
