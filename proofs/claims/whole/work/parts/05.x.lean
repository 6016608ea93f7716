/-! methods that may throw -/
abbrev XRes : Type := (Int32 ⊕ Nat) × MS
def Qx (w : TG) (rt : Option FieldType) (x : XRes) : Array Value → State → Outcome → State → Prop := fun _ st oc t => (∃ r : Int32, x.1 = .inl r ∧ oc = .returned (ans rt r) ∧ va_P (wD w) cls5 (wsp w x.2) t.heap) ∧ va_F (wA w) st t
def Xx (w : TG) (x : XRes) : String → State → State → Prop := fun E st t => (∃ e : Nat, x.1 = .inr e ∧ E = exN e ∧ va_P (wD w) cls5 (wsp w x.2) t.heap) ∧ va_F (wA w) st t
def MX (y : MD) (w : TG) (av : List Value) (σ : MS) (X : Option XRes) : Prop := ∀ (l : Launch) (x : XRes), l.stackTraces = false → X = some x → vx_Met l y.1 (wl y) (rmo y) (va_Pc av (Rp w σ)) (Qx w y.2.2.2.1 x) (Xx w x) y.2.2.2.2.2.2.1 y.2.2.2.2.2.2.2 (wA w)
abbrev QX (y : MD) (w : TG) (g : VG) (x : XRes) : State → Prop := vx_MQ (gB g) (Qx w y.2.2.2.1 x) (Xx w x) (gA g) (gS g) y.2.2.2.2.2.2.1 y.2.2.2.2.2.2.2 (wA w)
abbrev noH (g : VG) : Prop := ∀ z ∈ (gC g).exceptionTable.toList, False
theorem VX_meth {y : MD} {w : TG} {av : List Value} {σ : MS} {X : Option XRes} (hy : plainName y.1.cls = true) (hn : (lg_sl av).length ≤ y.2.2.1) (hc : ∀ v ∈ av, v.category = 1) (k : ∀ (g : VG) (x : XRes), noH g → VV y w g 0 0 (QX y w g x) (fun b => b = x) 0 (av.map some ++ List.replicate (y.2.2.1 - av.length) none) [] σ X) : MX y w av σ X := by
  intro l x hl hX
  refine vx_ofW (cc := y.2.1) (maxL := y.2.2.1) (ret := y.2.2.2.1) hy rfl ?_
  intro p e s m args below meth c s₁ B hml hno hv
  obtain ⟨rfl, hP, hK, hB, hXt⟩ := hv
  have hts := atoms_spec (ws := wl y) B.pre
  have hle := lv_entry av (n := y.2.2.1) hn
  rw [lg_entry_eq]
  have ok : Okm y w (p, l, e, (headSpec (wl y) (rmo y)).room, s, m, av.toArray, below, meth, c) := ⟨B.exec, B.bytes, hml, findClass_of_methodNamed B.named, fun t ht => hts t (List.mem_cons_of_mem _ ht), B.returns, B.notSynchronized, hK, hB, rfl, rfl, rfl, rfl, hXt, hl⟩
  refine k (p, l, e, (headSpec (wl y) (rmo y)).room, s, m, av.toArray, below, meth, c) x hno x hX rfl ok s.heap [] _ hP va_S.rf ?_
  refine ⟨hle.1, hle.2.1, fun i v hi => ?_⟩
  have hi2 : av[i]? = some v := by
    by_cases h : i < av.length
    · rw [List.getElem?_append_left (by simpa using h), List.getElem?_map] at hi
      cases hav : av[i]? with
      | none => rw [hav] at hi; cases hi
      | some u => rw [hav] at hi; cases hi; rfl
    · rw [List.getElem?_append_right (by simpa using h), List.getElem?_replicate] at hi
      split at hi <;> cases hi
  exact ⟨hle.2.2 (i, v) (by simpa using lva_mem av 0 i v hc hi2), hc v (List.mem_of_getElem? hi2)⟩
section VXR
variable {y : MD} {w : TG} {g : VG} {kc ks : Nat} {Q : State → Prop} {β : Type} {κ : β → Prop} {pc : Nat} {vs : List (Option Value)} {rest : List Value} {σ : MS} {X : Option β}
theorem VX_ireti {x : XRes} {v : Int32} {b : β} (hd : decode y.2.1 pc = .ok (.ireturn, 1)) (hr : y.2.2.2.1 = some .int) (hc : kc ≤ y.2.2.2.2.2.2.1 := by exact Nat.le_of_ble_eq_true rfl) (hs : ks ≤ y.2.2.2.2.2.2.2 := by exact Nat.le_of_ble_eq_true rfl) (hk : κ b → (.inl v, σ) = x) : VV y w g kc ks (QX y w g x) κ pc vs [.int v] σ (some b) := by
  intro b' hb hκ ok H locs ls hP hS hl'
  cases hb
  have hx := hk hκ
  subst hx
  refine W.widen hc hs (vx_ret ?_)
  exact W.iret ok.1 ok.2.1 (ok.2.2.2.2.2.1.trans hr) (fun t ht hW => ⟨⟨v, rfl, by rw [hr], by rw [ht]; exact hP⟩, hS.F ht⟩) hS.2.2 hd ok.2.2.2.2.2.2.1
theorem VX_iretz {x : XRes} {v : Int32} {b : β} {ty : FieldType} (hd : decode y.2.1 pc = .ok (.ireturn, 1)) (hr : y.2.2.2.1 = some ty) (hn : narrow ty (.int v) = .int v) (hc : kc ≤ y.2.2.2.2.2.2.1 := by exact Nat.le_of_ble_eq_true rfl) (hs : ks ≤ y.2.2.2.2.2.2.2 := by exact Nat.le_of_ble_eq_true rfl) (hk : κ b → (.inl v, σ) = x) : VV y w g kc ks (QX y w g x) κ pc vs [.int v] σ (some b) := by
  intro b' hb hκ ok H locs ls hP hS hl'
  cases hb
  have hx := hk hκ
  subst hx
  refine W.widen hc hs (vx_ret ?_)
  exact W.zret ok.1 ok.2.1 (ok.2.2.2.2.2.1.trans hr) hn (fun t ht hW => ⟨⟨v, rfl, by rw [hr], by rw [ht]; exact hP⟩, hS.F ht⟩) hS.2.2 hd ok.2.2.2.2.2.2.1
theorem VX_iretZ {x : XRes} {v : Int32} {b : β} (hd : decode y.2.1 pc = .ok (.ireturn, 1)) (hr : y.2.2.2.1 = some .boolean) (hc : kc ≤ y.2.2.2.2.2.2.1 := by exact Nat.le_of_ble_eq_true rfl) (hs : ks ≤ y.2.2.2.2.2.2.2 := by exact Nat.le_of_ble_eq_true rfl) (hk : κ b → (.inl v, σ) = x) : VV y w g kc ks (QX y w g x) κ pc vs [.int v] σ (if v = 0 ∨ v = 1 then some b else none) := by
  intro b' hb
  by_cases h : v = 0 ∨ v = 1
  · rw [if_pos h] at hb
    exact VX_iretz hd hr (by rcases h with h | h <;> rw [h] <;> rfl) hc hs hk b' hb
  · rw [if_neg h] at hb
    cases hb
theorem VX_ret {x : XRes} {b : β} (hd : decode y.2.1 pc = .ok (.return_, 1)) (hr : y.2.2.2.1 = none) (hc : kc ≤ y.2.2.2.2.2.2.1 := by exact Nat.le_of_ble_eq_true rfl) (hs : ks ≤ y.2.2.2.2.2.2.2 := by exact Nat.le_of_ble_eq_true rfl) (hk : κ b → (.inl 0, σ) = x) : VV y w g kc ks (QX y w g x) κ pc vs [] σ (some b) := by
  intro b' hb hκ ok H locs ls hP hS hl'
  cases hb
  have hx := hk hκ
  subst hx
  refine W.widen hc hs (vx_ret ?_)
  exact W.vret ok.1 ok.2.1 (ok.2.2.2.2.2.1.trans hr) (fun t ht hW => ⟨⟨0, rfl, by rw [hr], by rw [ht]; exact hP⟩, hS.F ht⟩) hS.2.2 hd ok.2.2.2.2.2.2.1
theorem VX_throw {x : XRes} {b : β} {own : String} {ik ic e : Nat} {names : List String} (hno : noH g) (ho : y.1.cls = own) (hfit : Jvm.Bundle.fit (exN e) = true) (hnames : ∀ n ∈ names, Jvm.Bundle.fit n = true) (he : e < 5) (hw : ∀ t ∈ Cond.classLink own ik (exN e) :: Cond.initialized (exN e) :: vx_at0 own ic (exN e) names, t = Cond.castable (exN e) (exN e) ∨ t ∈ dcT.map Cond.declares ∨ t ∈ gtb) (hgood : ∀ t ∈ Cond.classLink own ik (exN e) :: Cond.initialized (exN e) :: vx_at0 own ic (exN e) names, vx_ot t = true)
    (d0 : decode y.2.1 pc = .ok (.new ik, 3)) (d3 : decode y.2.1 (pc + 3) = .ok (.dup, 1)) (d4 : decode y.2.1 (pc + 4) = .ok (.invokespecial ic, 3)) (d7 : decode y.2.1 (pc + 7) = .ok (.athrow, 1)) (hF : names.length + 3 < y.2.2.2.2.1) (hL : (rest.map fun v => v.category).sum + (13 * (names.length + 1) + 42) ≤ y.2.2.2.2.2.1) (hc : kc + 1 ≤ y.2.2.2.2.2.2.1) (hs : ks + 6 ≤ y.2.2.2.2.2.2.2) (hk : κ b → (.inr e, σ) = x) : VV y w g kc ks (QX y w g x) κ pc vs rest σ (some b) := by
  intro b' hb hκ ok H locs ls hP hS hl'
  cases hb
  have hx := hk hκ
  subst hx
  subst ho
  have ow : ∀ t ∈ Cond.classLink y.1.cls ik (exN e) :: Cond.initialized (exN e) :: vx_at0 y.1.cls ic (exN e) names, t.before (gA g) (gS g) = true := fun t ht => by
    rcases hw t ht with h | h | h
    · rw [h]; exact (ok.2.2.2.2.2.2.2.2.2.2.2.2.2.1.2.2.2.2.2.2.2.1 e he).use
    · obtain ⟨x9, hx9, rfl⟩ := List.mem_map.mp h
      exact va_Nw.use rfl (ok.2.2.2.2.2.2.2.2.2.2.2.2.2.1.2.2.2.2.2.2.2.2 x9 hx9)
    · exact ok.2.2.2.2.1 t h
  have hXt := ok.2.2.2.2.2.2.2.2.2.2.2.2.2.1
  refine vx_throw0 ok.1 ok.2.1 ok.2.2.2.2.2.2.2.2.2.2.2.2.2.2 ok.2.2.2.1 hfit hnames (ow _ List.mem_cons_self) (ow _ (List.mem_cons_of_mem _ List.mem_cons_self)) (fun t ht => ow t (List.mem_cons_of_mem _ (List.mem_cons_of_mem _ ht))) hgood hXt.2.2.2.1 hXt.2.2.2.2.1 hS (hl'.1.trans ok.2.2.1.symm) d0 d3 d4 d7 (fun z hz => (hno z hz).elim) (by rw [ok.2.2.2.2.2.2.2.2.2.1]; exact hF) (by rw [ok.2.2.2.2.2.2.2.2.2.2.1]; exact hL) (by rw [ok.2.2.2.2.2.2.2.2.2.2.2.1]; exact hc) (by rw [ok.2.2.2.2.2.2.2.2.2.2.2.2.1]; exact hs) ok.2.2.2.2.2.2.1 (fun t hv hz hq => ?_) hS.2.2 hc hs
  refine ⟨⟨e, rfl, rfl, fun k q hk9 => (hP k q hk9).kept (hq q.1 (hP k q hk9).lt)⟩, Nat.le_trans hS.1 hz, fun q h1 h2 => ?_⟩
  rw [hq q (Nat.lt_of_lt_of_le h1 hS.1)]
  exact hS.2.1 q h1 h2
/-- behind a callee that may throw -/
def thn {β : Type} (Y : Option XRes) (Z : Int32 → MS → Option β) (Zx : Nat → MS → Option β) : Option β := Y.bind (fun r => Sum.elim (fun v => Z v r.2) (fun e => Zx e r.2) r.1)
theorem VX_run {y2 : MD} {av st : List Value} {Y : Option XRes} {Z : Int32 → MS → Option β} {Zx : Nat → MS → Option β} (hM : MX y2 w av σ Y)
    (hrun : ∀ (H : Heap) (locs : List Loc) (ls : Array Slot) (x2 : XRes), Okm y w g → va_P (wD w) cls5 (wsp w σ) H → va_S (wA w) (gS g).heap H locs → lh ls y.2.2.1 vs → vx_Met (gL g) y2.1 (wl y2) (rmo y2) (va_Pc av (Rp w σ)) (Qx w y2.2.2.2.1 x2) (Xx w x2) y2.2.2.2.2.2.2.1 y2.2.2.2.2.2.2.2 (wA w) → vx_Run (gP g) (gL g) (gE g) (gR g) (gS g) (gM g) (gA g) (gB g) (gH g) (gC g) H locs kc ks y2.2.2.2.2.2.2.1 y2.2.2.2.2.2.2.2 (F0 (gM g) pc ls st) rest (Qx w y2.2.2.2.1 x2 av.toArray) (Xx w x2) (wA w))
    (kk : ∀ (v : Int32) (s : MS), VV y w g (kc + y2.2.2.2.2.2.2.1) (ks + y2.2.2.2.2.2.2.2) Q κ (pc + 3) vs ((ans y2.2.2.2.1 v).toList ++ rest) s (Z v s))
    (kx : ∀ (e : Nat) (s : MS) (b : β), Zx e s = some b → κ b → Okm y w g → ∀ (H : Heap) (locs : List Loc) (ls : Array Slot) (q : Addr) (ce : Cell), va_P (wD w) cls5 (wsp w s) H → va_S (wA w) (gS g).heap H locs → lh ls y.2.2.1 vs → H[q]? = some ce → ce.vm = .none → (gS g).vm.findClass (exN e) = some ce.cls → vx_W (gP g) (gL g) (gE g) (gR g) (gS g) (gM g) (gA g) (gB g) (gH g) (gC g) H locs (kc + y2.2.2.2.2.2.2.1) (ks + y2.2.2.2.2.2.2.2) Q (F0 (gM g) pc ls rest) q) : VV y w g kc ks Q κ pc vs st σ (thn Y Z Zx) := by
  intro b hb hκ ok H locs ls hP hS hl'
  obtain ⟨x2, hY, hZ⟩ := Option.bind_eq_some_iff.mp hb
  have hr := hrun H locs ls x2 ok hP hS hl' (hM (gL g) x2 ok.2.2.2.2.2.2.2.2.2.2.2.2.2.2 hY)
  intro T hT X
  rcases hr T hT X with ⟨v, st₀, t, T', L, h0, X', hL, e1, e2, ⟨⟨r, hxr, hv, hR⟩, hF⟩, stp⟩ | ⟨q, st₀, t, T', L, E, ce, h0, X', hL, e1, e2, ⟨⟨e, hxe, hE, hR⟩, hF⟩, hce, hcv, hcl, stp⟩
  · cases hv
    obtain ⟨k1, k2, k3⟩ := vx_keep h0 e1 hS (fun _ _ h => h) (fun _ h => h) hL hF
    obtain ⟨t2, a1, b1⟩ := kk r x2.2 b (by rw [hxr] at hZ; exact hZ) hκ ok T'.heap (locs ++ L) ls (by rw [e1]; exact hR) k3 hl' T' rfl X'
    exact ⟨t2, stp t2 a1, b1⟩
  · subst hE
    obtain ⟨k1, k2, k3⟩ := vx_keep h0 e1 hS (fun _ _ h => h) (fun _ h => h) hL hF
    obtain ⟨t2, a1, b1⟩ := kx e x2.2 b (by rw [hxe] at hZ; exact hZ) hκ ok T'.heap (locs ++ L) ls q ce (by rw [e1]; exact hR) k3 hl' (by rw [e1]; exact hce) hcv hcl T' rfl X'
    exact ⟨t2, stp.trans a1, b1⟩
/-- the receiver's run -/
theorem VX_runV {y2 : MD} {index ci o n2 : Nat} {As st : List Value} (hw : cwp y.1.cls index y2 n2) (hd : decode y.2.1 pc = .ok (.invokevirtual index, 3)) (hk : kd o = ci) (hci : (cls5[ci]?).map (fun q => q.1) = some y2.1.cls)
    (hR : y2.2.2.2.2.1 + 1 ≤ y.2.2.2.2.1 ∧ 8 + (y2.2.2.1 + 11) + y2.2.2.2.2.2.1 ≤ y.2.2.2.2.2.1) (hn : As.length = n2) (hst : st = As.reverse ++ .ref (wB w + o) :: rest) (hcat : (rest.map fun v => v.category).sum ≤ 8) (hc : kc + y2.2.2.2.2.2.2.1 ≤ y.2.2.2.2.2.2.1) (hs : ks + y2.2.2.2.2.2.2.2 ≤ y.2.2.2.2.2.2.2)
    (H : Heap) (locs : List Loc) (ls : Array Slot) (x2 : XRes) (ok : Okm y w g) (hP : va_P (wD w) cls5 (wsp w σ) H) (hS : va_S (wA w) (gS g).heap H locs) (hl' : lh ls y.2.2.1 vs) (hMet : vx_Met (gL g) y2.1 (wl y2) (rmo y2) (va_Pc (.ref (wB w + o) :: As) (Rp w σ)) (Qx w y2.2.2.2.1 x2) (Xx w x2) y2.2.2.2.2.2.2.1 y2.2.2.2.2.2.2.2 (wA w)) : vx_Run (gP g) (gL g) (gE g) (gR g) (gS g) (gM g) (gA g) (gB g) (gH g) (gC g) H locs kc ks y2.2.2.2.2.2.2.1 y2.2.2.2.2.2.2.2 (F0 (gM g) pc ls st) rest (Qx w y2.2.2.2.1 x2 (.ref (wB w + o) :: As : List Value).toArray) (Xx w x2) (wA w) := by
  subst hk
  subst hst
  cases hq : cls5[kd o]? with
  | none => rw [hq] at hci; cases hci
  | some q =>
    rw [hq] at hci
    have hq1 : q.1 = y2.1.cls := Option.some.inj hci
    have hk12 : kd o ≤ 12 := by
      have := (List.getElem?_eq_some_iff.mp hq).1
      simp [cls5] at this
      omega
    have ho : o < 184 := kd_lt (by omega)
    have he : (wsp w σ)[o]? = some (wB w + o, .inr (kd o, fl w σ o (kd o))) := by
      rw [wsp_at ho]
      simp only [ent, if_pos hk12]
    exact vx_runV (Ts := gtb) ⟨ok.1, ok.2.1, ok.2.2.1, ok.2.2.2.1, ok.2.2.2.2.1⟩ hMet (cwV n2 ok.2.2.2.2.1 (goodIn_wl hw.1) rfl rfl rfl ⟨rfl, hw.2.1, hw.2.2.1, hw.2.2.2⟩ ⟨by rw [ok.2.2.2.2.2.2.2.2.2.1]; exact hR.1, by rw [ok.2.2.2.2.2.2.2.2.2.2.1]; exact hR.2⟩) ⟨Rp_blind, by rw [← hq1]; exact va_recv ok.2.2.2.2.2.2.2.1 hP hq he, fun U hU hW => ⟨rfl, by rw [hU]; exact hP, va_K.moved hW.alike ok.2.2.2.2.2.2.2.1, by rw [hU]; exact Nat.le_trans ok.2.2.2.2.2.2.2.2.1 hS.1, by rw [hU]; exact (ok.2.2.2.2.2.2.2.2.2.2.2.2.2.1.warm hW).kept hS.2.1⟩⟩ rfl hn hl'.1 rfl (lv_room hcat) hd ⟨by rw [ok.2.2.2.2.2.2.2.2.2.2.2.1]; exact hc, by rw [ok.2.2.2.2.2.2.2.2.2.2.2.2.1]; exact hs⟩
/-- it goes on to the caller -/
theorem VX_call {x : XRes} {y2 : MD} {own : String} {index ci o n2 : Nat} {As st : List Value} {Y : Option XRes} {Z : Int32 → MS → Option β} {Zx : Nat → MS → Option β} (hno : noH g) (hM : MX y2 w (.ref (wB w + o) :: As) σ Y) (hw : cwp own index y2 n2) (ho : y.1.cls = own) (hd : decode y.2.1 pc = .ok (.invokevirtual index, 3)) (hk : kd o = ci) (hci : (cls5[ci]?).map (fun q => q.1) = some y2.1.cls)
    (hR : y2.2.2.2.2.1 + 1 ≤ y.2.2.2.2.1 ∧ 8 + (y2.2.2.1 + 11) + y2.2.2.2.2.2.1 ≤ y.2.2.2.2.2.1) (hn : As.length = n2) (hst : st = As.reverse ++ .ref (wB w + o) :: rest) (hcat : (rest.map fun v => v.category).sum ≤ 8) (hc : kc + y2.2.2.2.2.2.2.1 ≤ y.2.2.2.2.2.2.1) (hs : ks + y2.2.2.2.2.2.2.2 ≤ y.2.2.2.2.2.2.2)
    (hx : ∀ (e : Nat) (s : MS) (b : β), Zx e s = some b → κ b → (.inr e, s) = x)
    (kk : ∀ (v : Int32) (s : MS), VV y w g (kc + y2.2.2.2.2.2.2.1) (ks + y2.2.2.2.2.2.2.2) (QX y w g x) κ (pc + 3) vs ((ans y2.2.2.2.1 v).toList ++ rest) s (Z v s)) : VV y w g kc ks (QX y w g x) κ pc vs st σ (thn Y Z Zx) := by
  subst ho
  refine VX_run (rest := rest) hM (VX_runV hw hd hk hci hR hn hst hcat hc hs) kk (fun e s b hb hκ ok H locs ls q ce hP hS hl' hce hcv hcl => ?_)
  have hx1 := hx e s b hb hκ
  subst hx1
  exact vx_out (fun z hz => (hno z hz).elim) ok.2.2.2.2.2.2.1 hce hcv hcl (fun t ht _ => ⟨⟨e, rfl, rfl, by rw [ht]; exact hP⟩, hS.F ht⟩) hS.2.2 hc hs
/-- it is caught here -/
theorem VX_callC {y2 : MD} {own : String} {index ci o n2 : Nat} {As st : List Value} {Y : Option XRes} {Z : Int32 → MS → Option β} {Zx : Nat → MS → Option β} (hM : MX y2 w (.ref (wB w + o) :: As) σ Y) (hw : cwp own index y2 n2) (ho : y.1.cls = own) (hd : decode y.2.1 pc = .ok (.invokevirtual index, 3)) (hk : kd o = ci) (hci : (cls5[ci]?).map (fun q => q.1) = some y2.1.cls)
    (hR : y2.2.2.2.2.1 + 1 ≤ y.2.2.2.2.1 ∧ 8 + (y2.2.2.1 + 11) + y2.2.2.2.2.2.1 ≤ y.2.2.2.2.2.1) (hn : As.length = n2) (hst : st = As.reverse ++ .ref (wB w + o) :: rest) (hcat : (rest.map fun v => v.category).sum ≤ 8) (hc : kc + y2.2.2.2.2.2.2.1 ≤ y.2.2.2.2.2.2.1) (hs : ks + y2.2.2.2.2.2.2.2 ≤ y.2.2.2.2.2.2.2)
    (hx : ∀ (e : Nat) (s : MS) (b : β), Zx e s = some b → ∃ (pre : List ExceptionTableEntry) (z : ExceptionTableEntry) (suf : List ExceptionTableEntry), e < 5 ∧ (gC g).exceptionTable.toList = pre ++ z :: suf ∧ covers z pc = true ∧ z.catchType ≠ 0 ∧ Cond.classLink own z.catchType (exN e) ∈ gtb ∧ (∀ u ∈ pre, u.catchType ≠ 0 ∧ ∃ e' : Nat, e' < 5 ∧ e ≠ e' ∧ Cond.classLink own u.catchType (exN e') ∈ gtb) ∧ ∀ q : Nat, VV y w g (kc + y2.2.2.2.2.2.2.1) (ks + y2.2.2.2.2.2.2.2) Q κ z.handlerPc vs [.ref q] s (Zx e s))
    (kk : ∀ (v : Int32) (s : MS), VV y w g (kc + y2.2.2.2.2.2.2.1) (ks + y2.2.2.2.2.2.2.2) Q κ (pc + 3) vs ((ans y2.2.2.2.1 v).toList ++ rest) s (Z v s)) : VV y w g kc ks Q κ pc vs st σ (thn Y Z Zx) := by
  subst ho
  refine VX_run (rest := rest) hM (VX_runV hw hd hk hci hR hn hst hcat hc hs) kk (fun e s b hb hκ ok H locs ls q ce hP hS hl' hce hcv hcl => ?_)
  obtain ⟨pre, z, suf, he5, hsp, hcov, hz0, hl1, hpre, hgo⟩ := hx e s b hb
  exact vx_catch ok.2.2.2.1 pre z suf hsp (fun u hu => by
    obtain ⟨h0, e', he', hne, hl3⟩ := hpre u hu
    exact Or.inr ⟨h0, exN e', ok.2.2.2.2.1 _ hl3, ok.2.2.2.2.2.2.2.2.2.2.2.2.2.1.2.2.2.2.2.1 e e' he5 he' hne⟩) hcov hz0 (ok.2.2.2.2.1 _ hl1) ((ok.2.2.2.2.2.2.2.2.2.2.2.2.2.1.2.2.2.2.2.2.2.1 e he5).use) hce hcv hcl (hgo q b hb hκ ok H locs ls hP hS hl')
theorem V_widen {st : List Value} {kc' ks' : Nat} (h1 : kc ≤ kc') (h2 : ks ≤ ks') (k : VV y w g kc' ks' Q κ pc vs st σ X) : VV y w g kc ks Q κ pc vs st σ X :=
  fun b hb hk ok H locs ls hP hS hl' => W.widen h1 h2 (k b hb hk ok H locs ls hP hS hl')
end VXR
