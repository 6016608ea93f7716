/-! constructors' contracts -/
def Rc (w : TG) (es : List va_E) (U : State) : Prop := va_P (wD w) cls5 (wse w es) U.heap ∧ U.heap.size = wB w + es.length ∧ va_K (wD w) cls5 (wT w) U ∧ wB w ≤ U.heap.size ∧ Xt w U U.heap
def Qk (w : TG) (es : List va_E) : Array Value → State → Outcome → State → Prop := fun _ st oc t => (oc = .returned none ∧ va_P (wD w) cls5 (wse w es) t.heap ∧ t.heap.size = wB w + es.length) ∧ va_F (wA w) st t
def MK (y : MD) (w : TG) (av : List Value) (es es' : List va_E) : Prop := ∀ l : Launch, l.stackTraces = false → Met l y.1 (wl y) (rmo y) (va_Pc av (Rc w es)) (Qk w es') y.2.2.2.2.2.2.1 y.2.2.2.2.2.2.2 (wA w)
abbrev QK (y : MD) (w : TG) (g : VG) (es : List va_E) : State → Prop := MQ (gB g) (Qk w es) (gA g) (gS g) y.2.2.2.2.2.2.1 y.2.2.2.2.2.2.2 (wA w)
theorem C_meth {y : MD} {w : TG} {av : List Value} {es es' : List va_E} (hy : plainName y.1.cls = true) (hn : (lg_sl av).length ≤ y.2.2.1) (hc : ∀ v ∈ av, v.category = 1) (hname : y.1.name = "<init>") (k : ∀ g : VG, (gH g).name = "<init>" → VC y w g 0 0 (QK y w g es') 0 (av.map some ++ List.replicate (y.2.2.1 - av.length) none) [] es) : MK y w av es es' := by
  intro l hl
  refine Met.ofW (cc := y.2.1) (maxL := y.2.2.1) (ret := y.2.2.2.1) hy rfl ?_
  intro p e s m args below meth c s₁ B hml hv
  obtain ⟨rfl, hP, hz, hK, hB, hXt⟩ := hv
  have hts := atoms_spec (ws := wl y) B.pre
  have hle := lv_entry av (n := y.2.2.1) hn
  have hin : meth.name = "<init>" := (name_of_methodNamed B.named B.method).1.trans hname
  rw [lg_entry_eq]
  have ok : Okm y w (p, l, e, (headSpec (wl y) (rmo y)).room, s, m, av.toArray, below, meth, c) := ⟨B.exec, B.bytes, hml, findClass_of_methodNamed B.named, fun t ht => hts t (List.mem_cons_of_mem _ ht), B.returns, B.notSynchronized, hK, hB, rfl, rfl, rfl, rfl, hXt, hl⟩
  refine k (p, l, e, (headSpec (wl y) (rmo y)).room, s, m, av.toArray, below, meth, c) hin ok s.heap [] _ hP hz va_S.rf ?_
  refine ⟨hle.1, hle.2.1, fun i v hi => ?_⟩
  have hi2 : av[i]? = some v := by
    by_cases h : i < av.length
    · rw [List.getElem?_append_left (by simpa using h), List.getElem?_map] at hi
      cases hav : av[i]? with
      | none => rw [hav] at hi; cases hi
      | some u => rw [hav] at hi; cases hi; rfl
    · rw [List.getElem?_append_right (by simpa using h), List.getElem?_replicate] at hi
      split at hi <;> cases hi
  exact ⟨hle.2.2 (i, v) (by simpa using lva_mem av 0 i v hc hi2), hc v (List.mem_of_getElem? hi2)⟩
theorem C_ret {y : MD} {w : TG} {g : VG} {kc ks : Nat} {pc : Nat} {vs : List (Option Value)} {es : List va_E} (hd : decode y.2.1 pc = .ok (.return_, 1)) (hr : y.2.2.2.1 = none) (hc : kc ≤ y.2.2.2.2.2.2.1) (hs : ks ≤ y.2.2.2.2.2.2.2) : VC y w g kc ks (QK y w g es) pc vs [] es := by
  intro ok H locs ls hP hz hS hl'
  refine W.widen hc hs ?_
  exact W.vret ok.1 ok.2.1 (ok.2.2.2.2.2.1.trans hr) (fun t ht hW => ⟨⟨rfl, by rw [ht]; exact hP, by rw [ht]; exact hz⟩, hS.F ht⟩) hS.2.2 hd ok.2.2.2.2.2.2.1
