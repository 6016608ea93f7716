/-! the law's own rows: its script, its long, its catching methods -/
theorem lg_cmp0 (a c : Int32) : lg_cmp a.toInt64 c.toInt64 = 0 ↔ a = c := by
  constructor
  · intro h
    have h2 : a.toInt64 = c.toInt64 := by
      unfold lg_cmp at h
      split at h
      · exact absurd h (by decide)
      · split at h
        · assumption
        · exact absurd h (by decide)
    have h3 := congrArg Int64.toInt h2
    rw [Int32.toInt_toInt64, Int32.toInt_toInt64] at h3
    exact Int32.toInt_inj.mp h3
  · intro h
    subst h
    simp [lg_cmp]
section VLR
variable {y : MD} {w : TG} {g : VG} {kc ks : Nat} {Q : State → Prop} {β : Type} {κ : β → Prop} {pc : Nat} {vs : List (Option Value)} {rest : List Value} {σ : MS} {X : Option β}
theorem V_lcmpeq {a c : Int32} {off : Int} {tgt : Nat} {X1 X2 : Option β} (hd : decode y.2.1 pc = .ok (.lcmp, 1)) (hd2 : decode y.2.1 (pc + 1) = .ok (.ifCond .eq off, 3)) (ht : ((pc + 1 : Nat) : Int) + off = (tgt : Int)) (kt : VV y w g kc ks Q κ tgt vs rest σ X1) (kf : VV y w g kc ks Q κ (pc + 1 + 3) vs rest σ X2) : VV y w g kc ks Q κ pc vs (.long c.toInt64 :: .long a.toInt64 :: rest) σ (if a = c then X1 else X2) := by
  intro b hb hk ok H locs ls hP hS hl'
  refine W.lcmp ok.1 ok.2.1 hd ?_
  have e : (if a = c then X1 else X2) = (if lg_cmp a.toInt64 c.toInt64 = 0 then X1 else X2) := by
    by_cases h : a = c
    · rw [if_pos h, if_pos ((lg_cmp0 a c).mpr h)]
    · rw [if_neg h, if_neg (fun q => h ((lg_cmp0 a c).mp q))]
  rw [e] at hb
  exact V_if_eq (a := lg_cmp a.toInt64 c.toInt64) hd2 ht kt kf b hb hk ok H locs ls hP hS hl'
theorem V_last {E : MS → Option β} {v : Int32} (hd : decode y.2.1 pc = .ok (.lastore, 1)) (kk : ∀ s, VV y w g kc ks Q κ (pc + 1) vs rest s (E s)) : VV y w g kc ks Q κ pc vs (.long v.toInt64 :: .int 0 :: .ref (wB w + 183) :: rest) σ (ltM (mu σ 183 0 v) E) := by
  intro b hb hκ ok H locs ls hP hS hl'
  have hw2 : ∀ f : Nat → Int64, f = (fun j => if j = (0 : Int32).toNatClampNeg then v.toInt64 else (σ 183 j).toInt64) → (wsp w σ).set 183 (wB w + 183, .inl (w.2.1.2.2.1, 1, .inr (.inl f))) = wsp w (mu σ 183 0 v) := by
    intro f hf
    apply wsp_set (by decide)
    rw [hf]
    simp only [ent, show kd 183 = 15 from by decide, show ln 183 = 1 from by decide, mu_self]
    simp [upd]
    funext j
    by_cases h : j = 0
    · simp [h]
    · simp [h]
  refine va_last ok.1 ok.2.1 ok.2.2.2.2.2.2.2.1 hP (wsp_D w σ) hS 183 2 (cA := w.2.1.2.2.1) (n := 1) (f := fun j => (σ 183 j).toInt64) ?_ rfl (inb_in (by decide)) hd (fun H1 locs1 hP1 _ hS1 => ?_)
  · rw [wsp_at (by decide)]
    simp [ent, show kd 183 = 15 from by decide, show ln 183 = 1 from by decide]
  · rw [hw2 (vp_updL (fun j => (σ 183 j).toInt64) (Int32.toNatClampNeg 0) v.toInt64) rfl] at hP1
    exact kk _ b hb hκ ok H1 locs1 ls hP1 hS1 hl'
theorem V_lald (hd : decode y.2.1 pc = .ok (.laload, 1)) (kk : VV y w g kc ks Q κ (pc + 1) vs (.long (σ 183 0).toInt64 :: rest) σ X) : VV y w g kc ks Q κ pc vs (.int 0 :: .ref (wB w + 183) :: rest) σ X := by
  intro b hb hκ ok H locs ls hP hS hl'
  refine va_lald ok.1 ok.2.1 ok.2.2.2.2.2.2.2.1 hP 183 2 (cA := w.2.1.2.2.1) (n := 1) (f := fun j => (σ 183 j).toInt64) ?_ rfl (inb_in (by decide)) hd (kk b hb hκ ok H locs ls hP hS hl')
  rw [wsp_at (by decide)]
  simp [ent, show kd 183 = 15 from by decide, show ln 183 = 1 from by decide]
/-- the script -/
theorem V_sld {b0 L : Nat} {xs : Nat → Int32} {i v : Int32} (hX : va_X b0 L xs (gS g) (gS g).heap) (hb0 : b0 < (gS g).heap.size) (hbA : ¬ wA w b0) (hi : inb i L = true) (hv : xs (ix i) = v) (hd : decode y.2.1 pc = .ok (.iaload, 1)) (kk : VV y w g kc ks Q κ (pc + 1) vs (.int v :: rest) σ X) : VV y w g kc ks Q κ pc vs (.int i :: .ref b0 :: rest) σ X := by
  subst hv
  exact fun b hb hk ok H locs ls hP hS hl' => va_sld ok.1 ok.2.1 hX hb0 hbA hS (inb_in hi) hd (kk b hb hk ok H locs ls hP hS hl')
end VLR
theorem Met.ofWH5 {l : Launch} {y : MethodName} {ws ws' : List Cond} {rm : Room} {Pc : Array Value → State → Prop} {Qc : Array Value → State → Outcome → State → Prop} {mc ms : Nat} {free : Addr → Prop} {cc : ByteArray} {maxL : Nat} {ret : Option FieldType} {hh : List (Nat × Nat × Nat × Nat)}
    (hy : plainName y.cls = true) (hw : ws = Cond.codeWith y cc maxL ret hh :: ws')
    (body : ∀ p e s m args below meth c s₁, BodyLoose p l y (headSpec ws rm) cc maxL ret e s m args below meth c s₁ → c.maxLocals = maxL → Pc args s →
      W p l e (headSpec ws rm).room s m args below meth c s.heap [] 0 0 (MQ below Qc args s mc ms free) (entryFrame m args maxL)) : Met l y ws rm Pc Qc mc ms free := by
  refine MetFree.of_bodyS (code := cc) (maxLocals := maxL) (ret := ret) hy ?_ ?_
  · intro args s m h hn
    obtain ⟨m9, meth, c, hn9, h1, h2, h3, h4, -, h5, h6, -⟩ := Cond.codeWith_spec (atoms_spec (ws := ws) h _ (by rw [hw]; exact List.mem_cons_self))
    cases hn.symm.trans hn9
    exact ⟨meth, c, h1, h2, h3, h4, h5, h6⟩
  · intro p e s m args below meth c s₁ B hml hP _
    have hh0 : s₁.heap = s.heap := by rw [B.state]; rfl
    obtain ⟨t, a1, o, b1, b2, b3⟩ := body p e s m args below meth c s₁ B hml hP s₁ hh0 (Stand.of_body B)
    exact ⟨t, o, a1, b1, b2, b3⟩
abbrev wlW (y : MD) (hh : List (Nat × Nat × Nat × Nat)) : List Cond := Cond.codeWith y.1 y.2.1 y.2.2.1 y.2.2.2.1 hh :: gtb
def MCW (y : MD) (hh : List (Nat × Nat × Nat × Nat)) (w : TG) (av : List Value) (σ : MS) (X : Option (Int32 × MS)) : Prop := ∀ (l : Launch) (x : Int32 × MS), l.stackTraces = false → X = some x → Met l y.1 (wlW y hh) (rmo y) (va_Pc av (Rp w σ)) (Qm w y.2.2.2.1 x) y.2.2.2.2.2.2.1 y.2.2.2.2.2.2.2 (wA w)
theorem V_methW {y : MD} {hh : List (Nat × Nat × Nat × Nat)} {w : TG} {av : List Value} {σ : MS} {X : Option (Int32 × MS)} (hy : plainName y.1.cls = true) (hn : (lg_sl av).length ≤ y.2.2.1) (hc : ∀ v ∈ av, v.category = 1) (k : ∀ (g : VG) (x : Int32 × MS), (gC g).exceptionTable.toList = tableOf hh → VV y w g 0 0 (QM y w g x) (fun b => b = x) 0 (av.map some ++ List.replicate (y.2.2.1 - av.length) none) [] σ X) : MCW y hh w av σ X := by
  intro l x hl hX
  refine Met.ofWH5 (cc := y.2.1) (maxL := y.2.2.1) (ret := y.2.2.2.1) (hh := hh) hy rfl ?_
  intro p e s m args below meth c s₁ B hml hv
  obtain ⟨rfl, hP, hK, hB, hXt⟩ := hv
  have hts := atoms_spec (ws := wlW y hh) B.pre
  have htab : c.exceptionTable.toList = tableOf hh := vx_table (x := y.1) B (hts _ List.mem_cons_self)
  have hle := lv_entry av (n := y.2.2.1) hn
  rw [lg_entry_eq]
  have ok : Okm y w (p, l, e, (headSpec (wlW y hh) (rmo y)).room, s, m, av.toArray, below, meth, c) := ⟨B.exec, B.bytes, hml, findClass_of_methodNamed B.named, fun t ht => hts t (List.mem_cons_of_mem _ ht), B.returns, B.notSynchronized, hK, hB, rfl, rfl, rfl, rfl, hXt, hl⟩
  refine k (p, l, e, (headSpec (wlW y hh) (rmo y)).room, s, m, av.toArray, below, meth, c) x htab x hX rfl ok s.heap [] _ hP va_S.rf ?_
  refine ⟨hle.1, hle.2.1, fun i v hi => ?_⟩
  have hi2 : av[i]? = some v := by
    by_cases h : i < av.length
    · rw [List.getElem?_append_left (by simpa using h), List.getElem?_map] at hi
      cases hav : av[i]? with
      | none => rw [hav] at hi; cases hi
      | some u => rw [hav] at hi; cases hi; rfl
    · rw [List.getElem?_append_right (by simpa using h), List.getElem?_replicate] at hi
      split at hi <;> cases hi
  exact ⟨hle.2.2 (i, v) (by simpa using lva_mem av 0 i v hc hi2), hc v (List.mem_of_getElem? hi2)⟩
def csw (own : String) (index : Nat) (y2 : MD) (hh : List (Nat × Nat × Nat × Nat)) (n2 : Nat) : Prop := GoodIn gtb (va_wsS own index y2.1 [Cond.codeWith y2.1 y2.2.1 y2.2.2.1 y2.2.2.2.1 hh]) ∧ y2.1.cls ≠ "java/lang/invoke/MethodHandle" ∧ y2.1.cls ≠ "java/lang/invoke/VarHandle" ∧ (parseMethodDescriptor y2.1.desc).map (fun d => d.parameters.length) = some n2
theorem goodIn_wlW {own : String} {index : Nat} {y2 : MD} {hh : List (Nat × Nat × Nat × Nat)} (h : GoodIn gtb (va_wsS own index y2.1 [Cond.codeWith y2.1 y2.2.1 y2.2.2.1 y2.2.2.2.1 hh])) : GoodIn gtb (va_wsS own index y2.1 (wlW y2 hh)) := by
  intro t ht
  rcases List.mem_append.mp ht with h1 | h1
  · exact h t (List.mem_append_left _ h1)
  · rcases List.mem_cons.mp h1 with h2 | h2
    · exact h t (by rw [h2]; exact List.mem_append_right _ List.mem_cons_self)
    · exact tbl_good t h2
theorem V_callW {y : MD} {w : TG} {g : VG} {kc ks : Nat} {Q : State → Prop} {β : Type} {κ : β → Prop} {pc : Nat} {vs : List (Option Value)} {rest : List Value} {σ : MS} {y2 : MD} {own : String} {index n2 : Nat} {hh : List (Nat × Nat × Nat × Nat)} {As st : List Value} {Y : Option (Int32 × MS)} {Z : Int32 × MS → Option β} {ty : FieldType} (hM : MCW y2 hh w As σ Y) (hw : csw own index y2 hh n2) (ho : y.1.cls = own) (hty : y2.2.2.2.1 = some ty) (hd : decode y.2.1 pc = .ok (.invokestatic index, 3))
    (hR : y2.2.2.2.2.1 + 1 ≤ y.2.2.2.2.1 ∧ 8 + (y2.2.2.1 + 11) + y2.2.2.2.2.2.1 ≤ y.2.2.2.2.2.1) (hn : As.length = n2) (hst : st = As.reverse ++ rest) (hcat : (rest.map fun v => v.category).sum ≤ 8) (hc : kc + y2.2.2.2.2.2.2.1 ≤ y.2.2.2.2.2.2.1) (hs : ks + y2.2.2.2.2.2.2.2 ≤ y.2.2.2.2.2.2.2)
    (kk : ∀ r : Int32 × MS, VV y w g (kc + y2.2.2.2.2.2.2.1) (ks + y2.2.2.2.2.2.2.2) Q κ (pc + 3) vs (.int r.1 :: rest) r.2 (Z r)) : VV y w g kc ks Q κ pc vs st σ (Y.bind Z) := by
  subst ho
  subst hst
  intro b hb hκ ok H locs ls hP hS hl'
  obtain ⟨r, hY, hZ⟩ := Option.bind_eq_some_iff.mp hb
  have hr := vx_runSW (Ts := gtb) (rest := rest) (g := F0 (gM g) pc ls (As.reverse ++ rest)) (e := gE g) (below := gB g) (meth := gH g) (locs := locs) (cells := kc) (slots := ks) (H := H) ⟨ok.1, ok.2.1, ok.2.2.1, ok.2.2.2.1, ok.2.2.2.2.1⟩ (hM (gL g) r ok.2.2.2.2.2.2.2.2.2.2.2.2.2.2 hY) (vx_cwSW n2 ok.2.2.2.2.1 (goodIn_wlW hw.1) rfl rfl rfl hw.2 ⟨by rw [ok.2.2.2.2.2.2.2.2.2.1]; exact hR.1, by rw [ok.2.2.2.2.2.2.2.2.2.2.1]; exact hR.2⟩) ⟨Rp_blind, fun U hU hW => ⟨rfl, by rw [hU]; exact hP, va_K.moved hW.alike ok.2.2.2.2.2.2.2.1, by rw [hU]; exact Nat.le_trans ok.2.2.2.2.2.2.2.2.1 hS.1, by rw [hU]; exact (ok.2.2.2.2.2.2.2.2.2.2.2.2.2.1.warm hW).kept hS.2.1⟩⟩ rfl hn hl'.1 rfl (lv_room hcat) hd ⟨by rw [ok.2.2.2.2.2.2.2.2.2.2.2.1]; exact hc, by rw [ok.2.2.2.2.2.2.2.2.2.2.2.2.1]; exact hs⟩
  intro T hT X
  obtain ⟨v, st₀, t, T', L, h0, X', hL, e1, e2, ⟨⟨hv, hR9⟩, hF⟩, stp⟩ := hr T hT X
  rw [hty] at hv
  cases hv
  obtain ⟨k1, k2, k3⟩ := vx_keep h0 e1 hS (fun _ _ h => h) (fun _ h => h) hL hF
  obtain ⟨t2, a1, b1⟩ := kk r b hZ hκ ok T'.heap (locs ++ L) ls (by rw [e1]; exact hR9.1) k3 hl' T' rfl X'
  exact ⟨t2, stp t2 a1, b1⟩
