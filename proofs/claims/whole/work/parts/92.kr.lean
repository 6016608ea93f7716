/-! layer 1: rules for constructors -/
theorem arrV_cong {cI : ClassId} {N : Nat} {f f' : Nat → Value} (h : ∀ j, j < N → f j = f' j) : arrV cI N f = arrV cI N f' := by
  unfold arrV
  congr 1
  apply Array.ext
  · simp
  · intro i h1 h2
    simp at h1 ⊢
    exact h i h1
section KR
variable {y : MD} {w : TG} {g : VG} {kc ks : Nat} {Q : State → Prop} {pc : Nat} {vs : List (Option Value)} {rest : List Value} {es ts : List va_E}
theorem own_at {x : va_E} : (es ++ x :: ts)[es.length]? = some x := by simp
theorem own_set {x x' : va_E} : (es ++ x :: ts).set es.length x' = es ++ x' :: ts := by simp
theorem own_push {x e : va_E} : (es ++ x :: ts) ++ [e] = es ++ x :: (ts ++ [e]) := by simp
theorem own_len {x : va_E} : (es ++ x :: ts).length = es.length + (ts.length + 1) := by simp
theorem K_putF {own C : String} {T : u_T} {N ci index k : Nat} {fs : List Value} {ty : FieldType} {v : Value} (hin2 : (gH g).name = "<init>") (hcl5 : cls5[ci]? = some (C, T, N)) (hin : ∀ t ∈ u_ws C T N, t ∈ gtb) (ty0 : Nat → FieldType) (hty : ∀ k, k < N → parseFieldDescriptor (T k).2.2.1 = some (ty0 k)) (hnm : ∀ a, a < N → ∀ b, b < N → a ≠ b → (T a).2.1 ≠ (T b).2.1) (ho : y.1.cls = own) (hk : k < N) (hw : Cond.fieldLink own index (T k).1 (T k).2.1 (T k).2.2.1 ∈ gtb) (hfin : (T k).2.2.2 = true) (hdecl : (T k).1 = own) (hpd : parseFieldDescriptor (T k).2.2.1 = some ty) (hn : narrow ty v = v) (hfit : fits ty v = true) (hlen : k < fs.length) (hd : decode y.2.1 pc = .ok (.putfield index, 3))
    (kk : VC y w g kc ks Q (pc + 3) vs rest (es ++ .inr (ci, fs.set k v) :: ts)) : VC y w g kc ks Q pc vs (v :: .ref (wB w + es.length) :: rest) (es ++ .inr (ci, fs) :: ts) := by
  refine C_putF hin2 hcl5 hin ty0 hty hnm ho own_at hk hw hfin hdecl hpd hn hfit hlen hd ?_
  rw [own_set]; exact kk
theorem K_put {own C : String} {T : u_T} {N ci index k : Nat} {fs : List Value} {ty : FieldType} {v : Value} (hcl5 : cls5[ci]? = some (C, T, N)) (hin : ∀ t ∈ u_ws C T N, t ∈ gtb) (ty0 : Nat → FieldType) (hty : ∀ k, k < N → parseFieldDescriptor (T k).2.2.1 = some (ty0 k)) (hnm : ∀ a, a < N → ∀ b, b < N → a ≠ b → (T a).2.1 ≠ (T b).2.1) (ho : y.1.cls = own) (hk : k < N) (hw : Cond.fieldLink own index (T k).1 (T k).2.1 (T k).2.2.1 ∈ gtb) (hfin : (T k).2.2.2 = false) (hpd : parseFieldDescriptor (T k).2.2.1 = some ty) (hn : narrow ty v = v) (hfit : fits ty v = true) (hlen : k < fs.length) (hd : decode y.2.1 pc = .ok (.putfield index, 3))
    (kk : VC y w g kc ks Q (pc + 3) vs rest (es ++ .inr (ci, fs.set k v) :: ts)) : VC y w g kc ks Q pc vs (v :: .ref (wB w + es.length) :: rest) (es ++ .inr (ci, fs) :: ts) := by
  refine C_put hcl5 hin ty0 hty hnm ho own_at hk hw hfin hpd hn hfit hlen hd ?_
  rw [own_set]; exact kk
theorem K_newi {n : Int32} {N q : Nat} {x : va_E} (hw : Cond.arrayClass .int ∈ gtb) (hd : decode y.2.1 pc = .ok (.newarray .int, 2)) (hn : ¬ n < 0) (hN : n.toNatClampNeg = N) (hN2 : N ≤ 100000) (hc : kc + 1 ≤ y.2.2.2.2.2.2.1) (hs : ks + N ≤ y.2.2.2.2.2.2.2) (hq : ts.length + 1 = q) (k : VC y w g (kc + 1) (ks + N) Q (pc + 2) vs (.ref (wB w + (es.length + q)) :: rest) (es ++ x :: (ts ++ [.inl (w.2.1.1, N, .inl (fun _ => 0))]))) : VC y w g kc ks Q pc vs (.int n :: rest) (es ++ x :: ts) := by
  refine C_newi hw hd hn hN hN2 hc hs ?_
  rw [own_push, own_len, hq]; exact k
theorem K_newb {n : Int32} {N q : Nat} {x : va_E} (hw : Cond.arrayClass .byte ∈ gtb) (hd : decode y.2.1 pc = .ok (.newarray .byte, 2)) (hn : ¬ n < 0) (hN : n.toNatClampNeg = N) (hN2 : N ≤ 100000) (hc : kc + 1 ≤ y.2.2.2.2.2.2.1) (hs : ks + N ≤ y.2.2.2.2.2.2.2) (hq : ts.length + 1 = q) (k : VC y w g (kc + 1) (ks + N) Q (pc + 2) vs (.ref (wB w + (es.length + q)) :: rest) (es ++ x :: (ts ++ [.inl (w.2.1.2.1, N, .inl (fun _ => 0))]))) : VC y w g kc ks Q pc vs (.int n :: rest) (es ++ x :: ts) := by
  refine C_newb hw hd hn hN hN2 hc hs ?_
  rw [own_push, own_len, hq]; exact k
theorem C_get {own C : String} {T : u_T} {N ci index o k : Nat} {fs : List Value} {v : Value} (hcl5 : cls5[ci]? = some (C, T, N)) (hin : ∀ t ∈ u_ws C T N, t ∈ gtb) (ho : y.1.cls = own) (he : es[o]? = some (.inr (ci, fs))) (hk : k < N) (hw : Cond.fieldLink own index (T k).1 (T k).2.1 (T k).2.2.1 ∈ gtb) (hv : fs[k]? = some v) (hd : decode y.2.1 pc = .ok (.getfield index, 3)) (kk : VC y w g kc ks Q (pc + 3) vs (v :: rest) es) : VC y w g kc ks Q pc vs (.ref (wB w + o) :: rest) es := by
  intro ok H locs ls hP hz hS hl'
  subst ho
  exact va_get ok.1 ok.2.1 ok.2.2.2.2.1 hin ok.2.2.2.1 ok.2.2.2.2.2.2.2.1 hP o (wse_at he) hcl5 k hk (ok.2.2.2.2.1 _ hw) (fun _ h => h) hv hd (kk ok H locs ls hP hz hS hl')
theorem C_iast {i v : Int32} {o n : Nat} {f : Nat → Int32} (he : es[o]? = some (.inl (w.2.1.1, n, .inl f))) (hi : inb i n = true) (hd : decode y.2.1 pc = .ok (.iastore, 1)) (kk : VC y w g kc ks Q (pc + 1) vs rest (es.set o (.inl (w.2.1.1, n, .inl (upd f i.toNatClampNeg v))))) : VC y w g kc ks Q pc vs (.int v :: .int i :: .ref (wB w + o) :: rest) es := by
  intro ok H locs ls hP hz hS hl'
  have ho : o < es.length := (List.getElem?_eq_some_iff.mp he).1
  have hK := ok.2.2.2.2.2.2.2.1
  have hin := inb_in hi
  refine W.iast ok.1 ok.2.1 (hP o _ (wse_at he)) ((hK.2 0 (w.2.1.1, .int) rfl).1 n (fun j => .int (f j))) (fun q => by cases q) (by show ¬ (i < 0 ∨ (arrV _ _ _).slots.size ≤ _); rw [arrV_size]; exact hin) rfl rfl hd fun H1 e z oq => ?_
  have hP1 := hP.set (wse_D w es) (wse_at he) (e := .inl (w.2.1.1, n, .inl (upd f i.toNatClampNeg v))) (by
    show H1[_]? = some (vp_cell _ _)
    rw [e, vp_cell_i, vp_cell_i, arrV_store]
    congr 2
    funext q
    by_cases hq : q = i.toNatClampNeg
    · subst hq
      simp [updV, upd]
    · simp [updV, upd, hq]) oq
  rw [wse_set ho] at hP1
  exact kk ok H1 _ ls hP1 (by rw [z, hz, List.length_set]) (hS.put z oq ((wse_D w es).2 o _ (wse_at he))) hl'
theorem C_anew {own : String} {index N : Nat} {n : Int32} {f : Nat → Option Nat} (hO : va_AO "SharedCup$House" (gS g)) (ho : y.1.cls = own) (hcl : Cond.classLink own index "SharedCup$House" ∈ gtb) (hn : ¬ n < 0) (hN : n.toNatClampNeg = N) (hN2 : N ≤ 100000) (hc : kc + 1 ≤ y.2.2.2.2.2.2.1) (hs : ks + N ≤ y.2.2.2.2.2.2.2) (hf : ∀ j, j < N → f j = none) (hd : decode y.2.1 pc = .ok (.anewarray index, 3))
    (k : VC y w g (kc + 1) (ks + N) Q (pc + 3) vs (.ref (wB w + es.length) :: rest) (es ++ [.inl (w.2.1.2.2.2, N, .inr (.inr (.inr (.inr f))))])) : VC y w g kc ks Q pc vs (.int n :: rest) es := by
  intro ok H locs ls hP hz hS hl'
  subst ho
  subst hN
  refine W.anew ok.1 ok.2.1 ok.2.2.2.1 (ok.2.2.2.2.1 _ hcl) (va_AO.use hO) rfl hd rfl hn (by omega) (by rw [ok.2.2.2.2.2.2.2.2.2.2.2.1]; exact hc) (by rw [ok.2.2.2.2.2.2.2.2.2.2.2.2.1]; exact hs) fun cA kA comp f1 f2 f3 f4 => ?_
  have hcA : cA = w.2.1.2.2.2 := by
    obtain ⟨_, _, -, -, -, h4⟩ := (ok.2.2.2.2.2.2.2.1.2 3 (w.2.1.2.2.2, .object "SharedCup$House") rfl).2
    exact Option.some.inj (f1.symm.trans h4)
  subst hcA
  generalize hH1 : H.push ({ cls := w.2.1.2.2.2, slots := Array.replicate n.toNatClampNeg .null, vm := .none } : Cell) = H1
  have z1 : H1.size = H.size + 1 := by rw [← hH1, Array.size_push]
  have e1 : H1[H.size]? = some (arrV w.2.1.2.2.2 n.toNatClampNeg (fun _ => .null)) := by rw [← hH1, Array.getElem?_push_size, ← arrV_new]
  have o1 : ∀ q : Nat, q < H.size → H1[q]? = H[q]? := fun q hq => by rw [← hH1, Array.getElem?_push, if_neg (Nat.ne_of_lt hq)]
  obtain ⟨p1, p2, p3⟩ := C_push (g := g) (e := .inl (w.2.1.2.2.2, n.toNatClampNeg, .inr (.inr (.inr (.inr f))))) hP hz hS z1 o1 (by
    show H1[H.size]? = some (vp_cell _ _)
    rw [vp_cell_q, e1]
    congr 1
    exact arrV_cong (fun j hj => by rw [hf j hj]; rfl))
  have hz' : H.size = wB w + es.length := hz
  have := k ok H1 locs ls p1 p2 p3 hl'
  rw [← hz'] at this
  exact this
theorem C_aast {i : Int32} {o qk n : Nat} {vs' : List Value} {f : Nat → Option Nat} (he : es[o]? = some (.inl (w.2.1.2.2.2, n, .inr (.inr (.inr (.inr f)))))) (hv : es[qk]? = some (.inr (4, vs'))) (hi : inb i n = true) (hd : decode y.2.1 pc = .ok (.aastore, 1)) (kk : VC y w g kc ks Q (pc + 1) vs rest (es.set o (.inl (w.2.1.2.2.2, n, .inr (.inr (.inr (.inr (va_up f i.toNatClampNeg (some (wB w + qk))))))))))
    : VC y w g kc ks Q pc vs (.ref (wB w + qk) :: .int i :: .ref (wB w + o) :: rest) es := by
  intro ok H locs ls hP hz hS hl'
  have ho : o < es.length := (List.getElem?_eq_some_iff.mp he).1
  have hK := ok.2.2.2.2.2.2.2.1
  have hin := inb_in hi
  have hlt : i.toNatClampNeg < n := Nat.not_le.mp fun q => hin (Or.inr q)
  have h0 : ¬ i < 0 := fun q => hin (Or.inl q)
  obtain ⟨r', hr', cellV, g1, g2, g3, -⟩ := hP qk _ (wse_at hv)
  have hcls := (hK.1 4 (RX4, TX4, 16) rfl).2
  obtain ⟨kA, comp, k1, k2, k3, -⟩ := (hK.2 3 (w.2.1.2.2.2, .object "SharedCup$House") rfl).2
  have hcomp : comp = (wD w).1 4 := Option.some.inj (k3.symm.trans hcls.1)
  subst hcomp
  obtain ⟨kC, hkC, -⟩ := hcls.2
  refine W.aast ok.1 ok.2.1 (hP o _ (wse_at he)) (fun q h => by cases h) (fun h => by cases h) k1 k2 rfl hkC ⟨h0, by show _ < (arrV _ _ _).slots.size; rw [arrV_size]; exact hlt⟩ g1 (fun q h => by rw [g3] at h; cases h) (by rw [g2]; exact hkC) (by rw [g2]; exact va_assign hcls) rfl rfl hd fun H1 e z oq => ?_
  have hP1 := hP.set (wse_D w es) (wse_at he) (e := .inl (w.2.1.2.2.2, n, .inr (.inr (.inr (.inr (va_up f i.toNatClampNeg (some (wB w + qk)))))))) (by
    show H1[_]? = some (vp_cell _ _)
    rw [e, vp_cell_q, vp_cell_q, arrV_store]
    congr 2
    funext q
    by_cases hq : q = i.toNatClampNeg
    · subst hq
      simp [updV, va_up, va_rf]
    · simp [updV, va_up, hq]) oq
  rw [wse_set ho] at hP1
  exact kk ok H1 _ ls hP1 (by rw [z, hz, List.length_set]) (hS.put z oq ((wse_D w es).2 o _ (wse_at he))) hl'
theorem C_istore_n {j : Fin 4} {i : Nat} {x : Int32} {vs' : List (Option Value)} (hd : decode y.2.1 pc = .ok (.istore_n j, 1)) (hj : (j : Nat) = i) (hn : i < y.2.2.1) (hi : i < vs.length) (hs : vs.set i (some (.int x)) = vs') (k : VC y w g kc ks Q (pc + 1) vs' rest es) : VC y w g kc ks Q pc vs (.int x :: rest) es := by
  subst hs
  exact fun ok H locs ls hP hz hS hl' => lv_istore_n ok.1 ok.2.1 hd hj (lh_lv hl') hn rfl (fun ls' h' => k ok H locs ls' hP hz hS (lh_st hl' rfl hi h'))
theorem C_istore {i : Nat} {x : Int32} {vs' : List (Option Value)} (hd : decode y.2.1 pc = .ok (.istore i, 2)) (hn : i < y.2.2.1) (hi : i < vs.length) (hs : vs.set i (some (.int x)) = vs') (k : VC y w g kc ks Q (pc + 2) vs' rest es) : VC y w g kc ks Q pc vs (.int x :: rest) es := by
  subst hs
  exact fun ok H locs ls hP hz hS hl' => lv_istore ok.1 ok.2.1 hd (lh_lv hl') hn rfl (fun ls' h' => k ok H locs ls' hP hz hS (lh_st hl' rfl hi h'))
theorem C_astore_n {j : Fin 4} {i : Nat} {x : Nat} {vs' : List (Option Value)} (hd : decode y.2.1 pc = .ok (.astore_n j, 1)) (hj : (j : Nat) = i) (hn : i < y.2.2.1) (hi : i < vs.length) (hs : vs.set i (some (.ref x)) = vs') (k : VC y w g kc ks Q (pc + 1) vs' rest es) : VC y w g kc ks Q pc vs (.ref x :: rest) es := by
  subst hs
  exact fun ok H locs ls hP hz hS hl' => lv_astore_n ok.1 ok.2.1 hd hj (lh_lv hl') hn rfl (fun ls' h' => k ok H locs ls' hP hz hS (lh_st hl' rfl hi h'))
theorem C_iload_n {j : Fin 4} {i : Nat} {x : Int32} (hd : decode y.2.1 pc = .ok (.iload_n j, 1)) (hi : (j : Nat) = i) (hl : vs[i]? = some (some (.int x))) (k : VC y w g kc ks Q (pc + 1) vs (.int x :: rest) es) : VC y w g kc ks Q pc vs rest es :=
  fun ok H locs ls hP hz hS hl' => lv_iload_n ok.1 ok.2.1 hd hi (hl'.2.2 _ _ hl).1 (k ok H locs ls hP hz hS hl')
theorem C_iinc {i : Nat} {n : Int} {x v : Int32} {vs' : List (Option Value)} (hd : decode y.2.1 pc = .ok (.iinc i n, 3)) (hn : i < y.2.2.1) (hl : vs[i]? = some (some (.int x))) (hv : x + Int32.ofInt n = v) (hs : vs.set i (some (.int v)) = vs') (k : VC y w g kc ks Q (pc + 3) vs' rest es) : VC y w g kc ks Q pc vs rest es := by
  subst hs
  intro ok H locs ls hP hz hS hl'
  obtain ⟨j, hj⟩ := List.getElem?_of_mem (lz_mem.mpr hl)
  exact lv_iinc ok.1 ok.2.1 hd (lh_lv hl') hj hv hn rfl (fun ls' h' => k ok H locs ls' hP hz hS (lh_st hl' rfl (List.getElem?_eq_some_iff.mp hl).1 h'))
theorem C_icmp_ge {a c : Int32} {off : Int} {tgt : Nat} (hd : decode y.2.1 pc = .ok (.if_icmp .ge off, 3)) (ht : (pc : Int) + off = (tgt : Int)) (kt : c ≤ a → VC y w g kc ks Q tgt vs rest es) (kf : ¬ c ≤ a → VC y w g kc ks Q (pc + 3) vs rest es) : VC y w g kc ks Q pc vs (.int c :: .int a :: rest) es :=
  fun ok H locs ls hP hz hS hl' => lv_icmp_ge ok.1 ok.2.1 hd ht (fun h => kt h ok H locs ls hP hz hS hl') (fun h => kf h ok H locs ls hP hz hS hl')
theorem C_goto {off : Int} {tgt : Nat} (hd : decode y.2.1 pc = .ok (.goto off, 3)) (ht : (pc : Int) + off = (tgt : Int)) (k : VC y w g kc ks Q tgt vs rest es) : VC y w g kc ks Q pc vs rest es :=
  fun ok H locs ls hP hz hS hl' => lv_goto ok.1 ok.2.1 hd ht (k ok H locs ls hP hz hS hl')
end KR
/-! constructors' contracts, with what SharedCup's own needs of the tables -/
def XN (b : Bool) (U : State) : Prop := b = true → va_Nw (.methodLinkNest "SharedCup" 9 yX9_init "SharedCup") U ∧ va_Nw (.methodLinkNest "SharedCup" 18 yX4_init "SharedCup") U ∧ va_Nw (.methodLinkNest "SharedCup" 31 yX6_init "SharedCup") U ∧ va_AO "SharedCup$House" U
theorem XN.warm {b : Bool} {u U : State} (hW : u.WarmedH U.vm) (h : XN b u) : XN b U := fun hb => ⟨va_Nw.warmM hW (h hb).1, va_Nw.warmM hW (h hb).2.1, va_Nw.warmM hW (h hb).2.2.1, va_AO.moved hW.alike (h hb).2.2.2⟩
theorem XN.same {b : Bool} {u U : State} (hv : U.vm = u.vm) (h : XN b u) : XN b U := fun hb => ⟨va_Nw.same rfl hv.symm (h hb).1, va_Nw.same rfl hv.symm (h hb).2.1, va_Nw.same rfl hv.symm (h hb).2.2.1, va_AO.moved (by rw [hv]; exact Vm.Alike.refl _) (h hb).2.2.2⟩
def RcX (w : TG) (es : List va_E) (b : Bool) (U : State) : Prop := Rc w es U ∧ XN b U
def MKX (y : MD) (w : TG) (av : List Value) (es es' : List va_E) (b : Bool) : Prop := ∀ l : Launch, l.stackTraces = false → Met l y.1 (wl y) (rmo y) (va_Pc av (RcX w es b)) (Qk w es') y.2.2.2.2.2.2.1 y.2.2.2.2.2.2.2 (wA w)
theorem RcX_blind {w : TG} {es : List va_E} {b : Bool} {av : List Value} : FrameBlind (va_Pc av (RcX w es b)) := fun a U f mk q => ⟨q.1, ⟨q.2.1.1, q.2.1.2.1, va_K.moved (u := U) (U := U.calling f mk a) (Vm.Alike.refl U.vm) q.2.1.2.2.1, q.2.1.2.2.2.1, q.2.1.2.2.2.2.same (U := U.calling f mk a) rfl⟩, q.2.2.same (U := U.calling f mk a) rfl⟩
theorem C_methX {y : MD} {w : TG} {av : List Value} {es es' : List va_E} {b : Bool} (hy : plainName y.1.cls = true) (hn : (lg_sl av).length ≤ y.2.2.1) (hc : ∀ v ∈ av, v.category = 1) (hname : y.1.name = "<init>") (k : ∀ g : VG, (gH g).name = "<init>" → XN b (gS g) → VC y w g 0 0 (QK y w g es') 0 (av.map some ++ List.replicate (y.2.2.1 - av.length) none) [] es) : MKX y w av es es' b := by
  intro l hl
  refine Met.ofW (cc := y.2.1) (maxL := y.2.2.1) (ret := y.2.2.2.1) hy rfl ?_
  intro p e s m args below meth c s₁ B hml hv
  obtain ⟨rfl, ⟨hP, hz, hK, hB, hXt⟩, hX⟩ := hv
  have hts := atoms_spec (ws := wl y) B.pre
  have hle := lv_entry av (n := y.2.2.1) hn
  have hin : meth.name = "<init>" := (name_of_methodNamed B.named B.method).1.trans hname
  rw [lg_entry_eq]
  have ok : Okm y w (p, l, e, (headSpec (wl y) (rmo y)).room, s, m, av.toArray, below, meth, c) := ⟨B.exec, B.bytes, hml, findClass_of_methodNamed B.named, fun t ht => hts t (List.mem_cons_of_mem _ ht), B.returns, B.notSynchronized, hK, hB, rfl, rfl, rfl, rfl, hXt, hl⟩
  refine k (p, l, e, (headSpec (wl y) (rmo y)).room, s, m, av.toArray, below, meth, c) hin hX ok s.heap [] _ hP hz va_S.rf ?_
  refine ⟨hle.1, hle.2.1, fun i v hi => ?_⟩
  have hi2 : av[i]? = some v := by
    by_cases h : i < av.length
    · rw [List.getElem?_append_left (by simpa using h), List.getElem?_map] at hi
      cases hav : av[i]? with
      | none => rw [hav] at hi; cases hi
      | some u => rw [hav] at hi; cases hi; rfl
    · rw [List.getElem?_append_right (by simpa using h), List.getElem?_replicate] at hi
      split at hi <;> cases hi
  exact ⟨hle.2.2 (i, v) (by simpa using lva_mem av 0 i v hc hi2), hc v (List.mem_of_getElem? hi2)⟩
section KC
variable {y : MD} {w : TG} {g : VG} {kc ks : Nat} {Q : State → Prop} {pc : Nat} {vs : List (Option Value)} {rest : List Value} {es es2 : List va_E}
theorem C_run {y2 : MD} {av st : List Value} {b : Bool}
    (hM : MKX y2 w av es es2 b)
    (hrun : ∀ (H : Heap) (locs : List Loc) (ls : Array Slot), Okm y w g → va_P (wD w) cls5 (wse w es) H → H.size = wB w + es.length → va_S (wA w) (gS g).heap H locs → lh ls y.2.2.1 vs → Met (gL g) y2.1 (wl y2) (rmo y2) (va_Pc av (RcX w es b)) (Qk w es2) y2.2.2.2.2.2.2.1 y2.2.2.2.2.2.2.2 (wA w) → va_Run (gP g) (gL g) (gE g) (gR g) (gS g) (gM g) (gA g) (gB g) (gH g) (gC g) H locs kc ks y2.2.2.2.2.2.2.1 y2.2.2.2.2.2.2.2 (F0 (gM g) pc ls st) rest (Qk w es2 av.toArray) (wA w))
    (kk : VC y w g (kc + y2.2.2.2.2.2.2.1) (ks + y2.2.2.2.2.2.2.2) Q (pc + 3) vs rest es2) : VC y w g kc ks Q pc vs st es := by
  intro ok H locs ls hP hz0 hS hl'
  have hr := hrun H locs ls ok hP hz0 hS hl' (hM (gL g) ok.2.2.2.2.2.2.2.2.2.2.2.2.2.2)
  intro T hT X
  obtain ⟨v, st₀, t, T', L, h0, X', hL, e1, e2, ⟨⟨hv, hR, hRz⟩, hz, hk⟩, stp⟩ := hr T hT X
  cases hv
  rw [h0] at hz hk
  have hS1 : va_S (wA w) (gS g).heap T'.heap (locs ++ L) := ⟨Nat.le_trans hS.1 (by rw [e1]; exact hz), fun q h1 h2 => by rw [e1, hk q (Nat.lt_of_lt_of_le h1 hS.1) h2]; exact hS.2.1 q h1 h2, fun q hq => by
      rcases List.mem_append.mp hq with h | h
      · exact hS.2.2 q h
      · exact hL q h⟩
  obtain ⟨t2, a1, b1⟩ := kk ok T'.heap (locs ++ L) ls (by rw [e1]; exact hR) (by rw [e1]; exact hRz) hS1 hl' T' rfl X'
  exact ⟨t2, stp t2 a1, b1⟩
/-- words of a constructor's call -/
def cki (y2 : MD) (n2 : Nat) : Prop := Cond.instanceMethod y2.1 ∈ gtb ∧ Cond.initialized y2.1.cls ∈ gtb ∧ Cond.code y2.1 y2.2.1 y2.2.2.1 none ∈ gtb ∧ y2.2.2.2.1 = none ∧ y2.1.name = "<init>" ∧ y2.1.cls ≠ "java/lang/invoke/MethodHandle" ∧ y2.1.cls ≠ "java/lang/invoke/VarHandle" ∧ (parseMethodDescriptor y2.1.desc).map (fun d => d.parameters.length) = some n2
theorem wl_good {y2 : MD} {n2 : Nat} (h : cki y2 n2) : GoodIn gtb (wl y2) := by
  intro t ht
  rcases List.mem_cons.mp ht with h2 | h2
  · rw [h2, h.2.2.2.1]; exact tbl_good _ h.2.2.1
  · exact tbl_good t h2
theorem C_callI {y2 : MD} {own : String} {index n2 o : Nat} {As st : List Value} {b : Bool} (hM : MKX y2 w (.ref (wB w + o) :: As) es es2 b) (hX : XN b (gS g)) (hw : cki y2 n2) (hl : Cond.methodLink own index y2.1 ∈ gtb) (ho : y.1.cls = own) (hd : decode y.2.1 pc = .ok (.invokespecial index, 3))
    (hR : y2.2.2.2.2.1 + 1 ≤ y.2.2.2.2.1 ∧ 8 + (y2.2.2.1 + 11) + y2.2.2.2.2.2.1 ≤ y.2.2.2.2.2.1) (hn : As.length = n2) (hst : st = As.reverse ++ .ref (wB w + o) :: rest) (hcat : (rest.map fun v => v.category).sum ≤ 8) (hc : kc + y2.2.2.2.2.2.2.1 ≤ y.2.2.2.2.2.2.1) (hs : ks + y2.2.2.2.2.2.2.2 ≤ y.2.2.2.2.2.2.2)
    (kk : VC y w g (kc + y2.2.2.2.2.2.2.1) (ks + y2.2.2.2.2.2.2.2) Q (pc + 3) vs rest es2) : VC y w g kc ks Q pc vs st es := by
  subst ho
  subst hst
  refine C_run hM (fun H locs ls ok hP hz hS hl' hMet => ?_) kk
  have hts := ok.2.2.2.2.1
  have hwl : wl y2 = Cond.code y2.1 y2.2.1 y2.2.2.1 none :: gtb := by rw [← hw.2.2.2.1]
  exact va_runI (Ts := gtb) ⟨ok.1, ok.2.1, ok.2.2.1, ok.2.2.2.1, ok.2.2.2.2.1⟩ hMet ⟨callB_of (ws' := gtb) n2 hts (wl_good hw) hwl rfl rfl (hts _ hw.2.1) (hts _ hl) ⟨hw.2.2.2.2.2.1, hw.2.2.2.2.2.2.1, hw.2.2.2.2.2.2.2⟩ ⟨by rw [ok.2.2.2.2.2.2.2.2.2.1]; exact hR.1, by rw [ok.2.2.2.2.2.2.2.2.2.2.1]; exact hR.2⟩, hw.2.2.2.2.1, hts _ hw.1⟩ ⟨RcX_blind, fun U hU hW => ⟨rfl, ⟨by rw [hU]; exact hP, by rw [hU]; exact hz, va_K.moved hW.alike ok.2.2.2.2.2.2.2.1, by rw [hU]; exact Nat.le_trans ok.2.2.2.2.2.2.2.2.1 hS.1, by rw [hU]; exact (ok.2.2.2.2.2.2.2.2.2.2.2.2.2.1.warm hW).kept hS.2.1⟩, hX.warm hW⟩⟩ rfl hn hl'.1 rfl (lv_room hcat) hd ⟨by rw [ok.2.2.2.2.2.2.2.2.2.2.2.1]; exact hc, by rw [ok.2.2.2.2.2.2.2.2.2.2.2.2.1]; exact hs⟩
theorem C_callN {y2 : MD} {own host : String} {index n2 o : Nat} {As st : List Value} {b : Bool} (hM : MKX y2 w (.ref (wB w + o) :: As) es es2 b) (hX : XN b (gS g)) (hw : cki y2 n2) (hl : va_Nw (.methodLinkNest own index y2.1 host) (gS g)) (ho : y.1.cls = own) (hd : decode y.2.1 pc = .ok (.invokespecial index, 3))
    (hR : y2.2.2.2.2.1 + 1 ≤ y.2.2.2.2.1 ∧ 8 + (y2.2.2.1 + 11) + y2.2.2.2.2.2.1 ≤ y.2.2.2.2.2.1) (hn : As.length = n2) (hst : st = As.reverse ++ .ref (wB w + o) :: rest) (hcat : (rest.map fun v => v.category).sum ≤ 8) (hc : kc + y2.2.2.2.2.2.2.1 ≤ y.2.2.2.2.2.2.1) (hs : ks + y2.2.2.2.2.2.2.2 ≤ y.2.2.2.2.2.2.2)
    (kk : VC y w g (kc + y2.2.2.2.2.2.2.1) (ks + y2.2.2.2.2.2.2.2) Q (pc + 3) vs rest es2) : VC y w g kc ks Q pc vs st es := by
  subst ho
  subst hst
  refine C_run hM (fun H locs ls ok hP hz hS hl' hMet => ?_) kk
  have hts := ok.2.2.2.2.1
  have hwl : wl y2 = Cond.code y2.1 y2.2.1 y2.2.2.1 none :: gtb := by rw [← hw.2.2.2.1]
  exact va_runIN (Ts := gtb) ⟨ok.1, ok.2.1, ok.2.2.1, ok.2.2.2.1, ok.2.2.2.2.1⟩ hMet ⟨va_cnB (ws' := gtb) n2 hts (wl_good hw) hwl rfl rfl hl (hts _ hw.2.1) ⟨hw.2.2.2.2.2.1, hw.2.2.2.2.2.2.1, hw.2.2.2.2.2.2.2⟩ ⟨by rw [ok.2.2.2.2.2.2.2.2.2.1]; exact hR.1, by rw [ok.2.2.2.2.2.2.2.2.2.2.1]; exact hR.2⟩, hw.2.2.2.2.1, hts _ hw.1⟩ ⟨RcX_blind, fun U hU hW => ⟨rfl, ⟨by rw [hU]; exact hP, by rw [hU]; exact hz, va_K.moved hW.alike ok.2.2.2.2.2.2.2.1, by rw [hU]; exact Nat.le_trans ok.2.2.2.2.2.2.2.2.1 hS.1, by rw [hU]; exact (ok.2.2.2.2.2.2.2.2.2.2.2.2.2.1.warm hW).kept hS.2.1⟩, hX.warm hW⟩⟩ rfl hn hl'.1 rfl (lv_room hcat) hd ⟨by rw [ok.2.2.2.2.2.2.2.2.2.2.2.1]; exact hc, by rw [ok.2.2.2.2.2.2.2.2.2.2.2.2.1]; exact hs⟩
end KC
