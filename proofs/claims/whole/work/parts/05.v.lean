/-! The memory of the system after its making: object o (a number) lies at the cell B + o; its slots are ints; references never change. -/
/-- the words of the tables that stay true -/
def gtb : List Cond := lw_tbl.filter goodWord
theorem gm {t : Cond} (h : t ∈ lw_tbl) (hg : goodWord t = true) : t ∈ gtb := List.mem_filter.mpr ⟨h, hg⟩
theorem tbl_good : GoodIn gtb gtb := goodIn_sub (fun _ h => h) (List.all_eq_true.mpr (fun _ ht => (List.mem_filter.mp ht).2))
abbrev MS : Type := Nat → Nat → Int32
def mu (σ : MS) (o k : Nat) (v : Int32) : MS := va_up σ o (upd (σ o) k v)
abbrev cls5 : List vw_C := [(RX1, TX1, 3), (RX1, TX1, 3), (RX2, TX2, 5), (RX3, TX3, 1), (RX4, TX4, 16), (RX5, TX5, 1), (RX6, TX6, 8), (RX7, TX7, 1), (RX8, TX8, 4), (RX9, TX9, 5), (RX10, TX10, 1), (RX11, TX11, 19), (RX12, TX12, 25)]
def nf (ci : Nat) : Nat := [0, 3, 5, 1, 16, 1, 8, 1, 4, 5, 1, 19, 25].getD ci 0
/-- the kind of an object: 0 to 12 a class of cls5; 13 ints, 14 bytes, 15 longs, 16 houses -/
def kd (o : Nat) : Nat :=
  if o < 3 then [11, 9, 13].getD o 99
  else if o < 30 then (if (o - 3) % 9 = 0 then 4 else 13)
  else if o < 51 then (if (o - 30) % 7 = 0 then 6 else 13)
  else if o < 63 then [5, 7, 1, 13, 10, 8, 13, 13, 3, 2, 13, 16].getD (o - 51) 99
  else if o < 171 then (if (o - 63) % 9 = 0 then 4 else 13)
  else if o < 184 then [12, 13, 13, 13, 13, 13, 14, 13, 13, 13, 13, 13, 15].getD (o - 171) 99
  else 99
def ln (o : Nat) : Nat :=
  if o < 3 then [0, 0, 400].getD o 0
  else if o < 30 then [0, 8, 8, 8, 8, 64, 64, 64, 60].getD ((o - 3) % 9) 0
  else if o < 51 then [0, 12, 12, 12, 400, 8, 32].getD ((o - 30) % 7) 0
  else if o < 63 then [0, 0, 0, 8, 0, 0, 8, 8, 0, 0, 8, 12].getD (o - 51) 0
  else if o < 171 then [0, 8, 8, 8, 8, 64, 64, 64, 60].getD ((o - 63) % 9) 0
  else if o < 184 then [0, 2172, 1323, 1323, 474, 5688, 400, 5, 400, 9, 8, 256, 1].getD (o - 171) 0
  else 0
/-- where a field that is a reference leads; none: the field is an int -/
def rf (ci k o : Nat) : Option Nat :=
  if ci = 1 then [some 3, some 30, some (o + 1)].getD k none
  else if ci = 2 then [some 3, some 1, some (o + 1), none, none].getD k none
  else if ci = 3 then some 3
  else if ci = 4 then (if k < 8 then none else some (o + (k - 7)))
  else if ci = 5 then some 1
  else if ci = 6 then (if k < 2 then none else some (o + (k - 1)))
  else if ci = 7 then some 1
  else if ci = 8 then [some 3, some (o + 1), some (o + 2), none].getD k none
  else if ci = 9 then [some (o + 1), none, none, none, none].getD k none
  else if ci = 10 then some 3
  else if ci = 11 then [some 1, some 3, some 12, some 21, some 30, some 37, some 44, some 51, some 52, some 53, some 55, some 56, some 59, some 60, some 62, none, none, none, none].getD k none
  else if ci = 12 then [none, some 172, some 173, some 174, some 175, some 176, none, none, some 177, none, none, none, none, none, none, some 178, none, some 179, none, none, none, none, some 180, some 181, some 182].getD k none
  else none
/-- the world's constants: classes, slots of fields, array classes (int, byte, long, House), base -/
abbrev TG : Type := va_G × (ClassId × ClassId × ClassId × ClassId) × Nat × (Nat → Nat) × (Nat → Nat)
abbrev wD (w : TG) : va_G := w.1
abbrev wB (w : TG) : Nat := w.2.2.1
abbrev wS (w : TG) : Nat → Nat := w.2.2.2.1
abbrev wV (w : TG) : Nat → Nat := w.2.2.2.2
abbrev wT (w : TG) : List (ClassId × FieldType) := [(w.2.1.1, .int), (w.2.1.2.1, .byte), (w.2.1.2.2.1, .long), (w.2.1.2.2.2, .object "SharedCup$House")]
def fl (w : TG) (σ : MS) (o ci : Nat) : List Value := (List.range (nf ci)).map (fun k => match rf ci k o with
  | some t => .ref (wB w + t)
  | none => .int (σ o k))
def ent (w : TG) (σ : MS) (o : Nat) : va_E :=
  if kd o ≤ 12 then .inr (kd o, fl w σ o (kd o))
  else if kd o = 13 then .inl (w.2.1.1, ln o, .inl (σ o))
  else if kd o = 14 then .inl (w.2.1.2.1, ln o, .inl (σ o))
  else if kd o = 15 then .inl (w.2.1.2.2.1, ln o, .inr (.inl (fun j => (σ o j).toInt64)))
  else .inl (w.2.1.2.2.2, ln o, .inr (.inr (.inr (.inr (fun j => some (wB w + (63 + 9 * j)))))))
def wsp (w : TG) (σ : MS) : va_W := (List.range 184).map (fun o => (wB w + o, ent w σ o))
abbrev wA (w : TG) : Nat → Prop := fun q => wB w ≤ q
theorem wsp_at {w : TG} {σ : MS} {o : Nat} (h : o < 184) : (wsp w σ)[o]? = some (wB w + o, ent w σ o) := by
  simp [wsp, h]
theorem kd_lt {o : Nat} (h : kd o ≤ 16) : o < 184 := by
  by_cases h1 : o < 184
  · exact h1
  · exfalso
    have h2 : kd o = 99 := by
      unfold kd
      rw [if_neg (by omega), if_neg (by omega), if_neg (by omega), if_neg (by omega), if_neg (by omega), if_neg h1]
    omega
theorem wsp_D (w : TG) (σ : MS) : va_D (wA w) (wsp w σ) := by
  refine ⟨fun i j p q hi hj hpq => ?_, fun k q hk => ?_⟩
  · have hi' : i < 184 := by
      have := (List.getElem?_eq_some_iff.mp hi).1
      simpa [wsp] using this
    have hj' : j < 184 := by
      have := (List.getElem?_eq_some_iff.mp hj).1
      simpa [wsp] using this
    rw [wsp_at hi'] at hi
    rw [wsp_at hj'] at hj
    cases hi
    cases hj
    have : wB w + i = wB w + j := hpq
    omega
  · have hk' : k < 184 := by
      have := (List.getElem?_eq_some_iff.mp hk).1
      simpa [wsp] using this
    rw [wsp_at hk'] at hk
    cases hk
    show wB w ≤ wB w + k
    omega
theorem mu_self (σ : MS) (o k : Nat) (v : Int32) : mu σ o k v o = upd (σ o) k v := by simp [mu, va_up]
theorem mu_ne (σ : MS) {o a : Nat} (k : Nat) (v : Int32) (h : a ≠ o) : mu σ o k v a = σ a := by simp [mu, va_up, h]
theorem ent_ne (w : TG) (σ : MS) {o a : Nat} (k : Nat) (v : Int32) (h : a ≠ o) : ent w (mu σ o k v) a = ent w σ a := by
  simp only [ent, fl, mu_ne σ k v h]
theorem wsp_set {w : TG} {σ : MS} {o k : Nat} {v : Int32} {e : va_E} (ho : o < 184) (he : ent w (mu σ o k v) o = e) : (wsp w σ).set o (wB w + o, e) = wsp w (mu σ o k v) := by
  subst he
  apply List.ext_getElem?
  intro j
  by_cases hj : j = o
  · subst hj
    rw [List.getElem?_set_self (by simpa [wsp] using ho), wsp_at ho]
  · rw [List.getElem?_set_ne (Ne.symm hj)]
    by_cases hj2 : j < 184
    · rw [wsp_at hj2, wsp_at hj2, ent_ne w σ k v hj]
    · rw [List.getElem?_eq_none (by simp [wsp]; omega), List.getElem?_eq_none (by simp [wsp]; omega)]
theorem fl_at {w : TG} {σ : MS} {o ci k : Nat} (h : k < nf ci) : (fl w σ o ci)[k]? = some (match rf ci k o with
  | some t => .ref (wB w + t)
  | none => .int (σ o k)) := by
  simp [fl, h]
theorem fl_set {w : TG} {σ : MS} {o ci k : Nat} {v : Int32} (h : k < nf ci) (hr : rf ci k o = none) : (fl w σ o ci).set k (.int v) = fl w (mu σ o k v) o ci := by
  apply List.ext_getElem?
  intro j
  by_cases hj : j = k
  · subst hj
    rw [List.getElem?_set_self (by simpa [fl] using h), fl_at h, hr, mu_self]
    simp [upd]
  · rw [List.getElem?_set_ne (Ne.symm hj)]
    by_cases hj2 : j < nf ci
    · rw [fl_at hj2, fl_at hj2, mu_self]
      simp [upd, hj]
    · rw [List.getElem?_eq_none (by simp [fl]; omega), List.getElem?_eq_none (by simp [fl]; omega)]
def strT : List (String × Nat × String × Nat) := [(RX12, 124, "at", 0), (RX12, 137, "till", 1), (RX12, 147, "person", 2), (RX12, 153, "likes", 3), (RX12, 158, "wed", 4), (RX12, 163, "flour", 5), (RX12, 168, "binds", 6), (RX12, 172, "lasts", 7), (RX12, 174, "bond", 8), (RX12, 179, "day", 9), (RX12, 187, "one", 10), (RX12, 189, "other", 11), (RX12, 191, "sip", 12), (RX12, 193, "many", 13), (RX12, 195, "liking", 14), (RX12, 203, "bound", 15), (RX12, 211, "not", 16), (RX12, 225, "and", 17), (RX12, 230, "or", 18), (RX12, 232, "bind", 19), (RX12, 234, "last", 20), (RX12, 236, "suspect", 21), (RX12, 238, "if", 22), (RX5, 32, "person likes wed flour binds lasts bond day", 23), (RX5, 78, "at", 24), (RX5, 122, "till", 25), (RX7, 35, "bind last suspect", 26), (RX7, 48, "if", 27), (RX7, 69, "and", 28), (RX7, 71, "or", 29), (RX7, 73, "not", 30), (RX7, 78, "wed bound", 31), (RX7, 83, "one other sip many liking day", 32)]
def stL : List Nat := [2, 4, 6, 5, 3, 5, 5, 5, 4, 3, 3, 5, 3, 4, 6, 5, 3, 3, 2, 4, 4, 7, 2, 43, 2, 4, 17, 2, 3, 2, 3, 9, 29]
def stB : List (List Int32) := [[97, 116], [116, 105, 108, 108], [112, 101, 114, 115, 111, 110], [108, 105, 107, 101, 115], [119, 101, 100], [102, 108, 111, 117, 114], [98, 105, 110, 100, 115], [108, 97, 115, 116, 115], [98, 111, 110, 100], [100, 97, 121], [111, 110, 101], [111, 116, 104, 101, 114], [115, 105, 112], [109, 97, 110, 121], [108, 105, 107, 105, 110, 103], [98, 111, 117, 110, 100], [110, 111, 116], [97, 110, 100], [111, 114], [98, 105, 110, 100], [108, 97, 115, 116], [115, 117, 115, 112, 101, 99, 116], [105, 102], [112, 101, 114, 115, 111, 110, 32, 108, 105, 107, 101, 115, 32, 119, 101, 100, 32, 102, 108, 111, 117, 114, 32, 98, 105, 110, 100, 115, 32, 108, 97, 115, 116, 115, 32, 98, 111, 110, 100, 32, 100, 97, 121], [97, 116], [116, 105, 108, 108], [98, 105, 110, 100, 32, 108, 97, 115, 116, 32, 115, 117, 115, 112, 101, 99, 116], [105, 102], [97, 110, 100], [111, 114], [110, 111, 116], [119, 101, 100, 32, 98, 111, 117, 110, 100], [111, 110, 101, 32, 111, 116, 104, 101, 114, 32, 115, 105, 112, 32, 109, 97, 110, 121, 32, 108, 105, 107, 105, 110, 103, 32, 100, 97, 121]]
def exN (e : Nat) : String := ["java/lang/IndexOutOfBoundsException", "java/lang/IllegalArgumentException", "java/util/NoSuchElementException", "java/lang/IllegalStateException", "java/lang/UnsupportedOperationException"].getD e ""
def dcT : List MethodName := [⟨"java/lang/RuntimeException", "<init>", "()V"⟩, ⟨"java/lang/Exception", "<init>", "()V"⟩, ⟨"java/lang/Throwable", "<init>", "()V"⟩]
theorem dc_moved {x : MethodName} {u U : State} (hv : u.vm.Alike U.vm) (h : va_Nw (.declares x) u) : va_Nw (.declares x) U := va_tabs rfl (rfl : (u.setVm U.vm).vm = U.vm) (by rw [Cond.declares_setVm hv]; exact h)
def yc (C : String) (U : State) : Prop := ∃ c : ClassId, U.vm.findClass C = some c ∧ U.vm.assignable c c = true
theorem yc.moved {C : String} {u U : State} (hvm : u.vm.Alike U.vm) (h : yc C u) : yc C U := by
  obtain ⟨c, h1, h3⟩ := h
  exact ⟨c, by rw [hvm.findClass]; exact h1, by rw [hvm.assignable]; exact h3⟩
theorem yc.use {C : String} {U : State} {args : Array Value} (h : yc C U) : (Cond.castable C C).before args U = true := by
  obtain ⟨c, h1, h3⟩ := h
  simp [Cond.before, Cond.holds, Cond.value, h1, h3]
theorem yc.of {C : String} {U : State} {args : Array Value} (h : (Cond.castable C C).before args U = true) : yc C U := by
  obtain ⟨c, t, h1, h2, h3⟩ := Cond.castable_spec h
  cases Option.some.inj (h1.symm.trans h2)
  exact ⟨c, h1, h3⟩
def Xt (w : TG) (U : State) (H : Heap) : Prop :=
  (∀ i : Nat, i < 33 → va_O "java/lang/String" (wS w i) (wA w) U H ∧ va_OF "java/lang/String" "coder" "B" (.int 0) (wS w i) (wA w) U H ∧ va_OF "java/lang/String" "value" "[B" (.ref (wV w i)) (wS w i) (wA w) U H ∧ va_T .byte (wV w i) (stL.getD i 0) (fun j => .int ((stB.getD i []).getD j 0)) (wA w) U H) ∧
  (∀ q ∈ strT, vk_R q.1 q.2.1 q.2.2.1 (wS w q.2.2.2) U) ∧ va_Z "java/lang/String" "COMPACT_STRINGS" "Z" (.int 1) (wA w) U H ∧ vx_Zq Jvm.Bundle.tN "UNASSIGNED_STACK" Jvm.Bundle.steD (wA w) U H ∧ vx_Zq Jvm.Bundle.tN "SUPPRESSED_SENTINEL" Jvm.Bundle.listD (wA w) U H ∧ (∀ a b : Nat, a < 5 → b < 5 → a ≠ b → va_Nc (exN a) (exN b) U) ∧ va_Zq "jdk/internal/util/Preconditions" "SIOOBE_FORMATTER" "Ljava/util/function/BiFunction;" (wA w) U H ∧ (∀ a : Nat, a < 5 → yc (exN a) U) ∧ (∀ x ∈ dcT, va_Nw (.declares x) U)
theorem Xt.alike {w : TG} {u U : State} {H : Heap} (hv : u.vm.Alike U.vm) (hR : ∀ q ∈ strT, vk_R q.1 q.2.1 q.2.2.1 (wS w q.2.2.2) U) (h : Xt w u H) : Xt w U H :=
  ⟨fun i hi => ⟨va_O.moved hv (h.1 i hi).1, va_OF.moved hv (h.1 i hi).2.1, va_OF.moved hv (h.1 i hi).2.2.1, va_T.moved hv (h.1 i hi).2.2.2⟩, hR, h.2.2.1.moved hv, h.2.2.2.1.moved hv, h.2.2.2.2.1.moved hv, fun a b ha hb hab => (h.2.2.2.2.2.1 a b ha hb hab).moved hv, h.2.2.2.2.2.2.1.moved hv, fun a ha => (h.2.2.2.2.2.2.2.1 a ha).moved hv, fun x hx => dc_moved hv (h.2.2.2.2.2.2.2.2 x hx)⟩
theorem Xt.warm {w : TG} {u U : State} {H : Heap} (hW : u.WarmedH U.vm) (h : Xt w u H) : Xt w U H := h.alike hW.alike (fun q hq => (h.2.1 q hq).warm hW)
theorem Xt.same {w : TG} {u U : State} {H : Heap} (hv : U.vm = u.vm) (h : Xt w u H) : Xt w U H := h.alike (by rw [hv]; exact Vm.Alike.refl _) (fun q hq => (h.2.1 q hq).same hv)
theorem Xt.kept {w : TG} {U : State} {H H1 : Heap} (hq : ∀ a : Nat, a < H.size → ¬ wA w a → H1[a]? = H[a]?) (h : Xt w U H) : Xt w U H1 :=
  ⟨fun i hi => ⟨(h.1 i hi).1.kept hq, (h.1 i hi).2.1.kept hq, (h.1 i hi).2.2.1.kept hq, (h.1 i hi).2.2.2.kept hq⟩, h.2.1, h.2.2.1.kept hq, h.2.2.2.1.kept hq, h.2.2.2.2.1.kept hq, h.2.2.2.2.2.1, h.2.2.2.2.2.2.1.kept hq, h.2.2.2.2.2.2.2⟩
/-- locals -/
def lh (ls : Array Slot) (nL : Nat) (vs : List (Option Value)) : Prop := ls.size = nL ∧ lv_wf ls ∧ ∀ (i : Nat) (v : Value), vs[i]? = some (some v) → ls[i]? = some (.val v) ∧ v.category = 1
def lz (vs : List (Option Value)) : List (Nat × Value) := (List.range vs.length).filterMap (fun i => match vs[i]? with
  | some (some v) => some (i, v)
  | _ => none)
theorem lz_mem {vs : List (Option Value)} {i : Nat} {v : Value} : (i, v) ∈ lz vs ↔ vs[i]? = some (some v) := by
  simp only [lz, List.mem_filterMap, List.mem_range]
  constructor
  · rintro ⟨j, hj, h⟩
    split at h
    · next v' hv =>
      cases h
      exact hv
    · cases h
  · intro h
    exact ⟨i, (List.getElem?_eq_some_iff.mp h).1, by simp [h]⟩
theorem lh_lv {ls : Array Slot} {nL : Nat} {vs : List (Option Value)} (h : lh ls nL vs) : lv_has ls nL (lz vs) := ⟨h.1, h.2.1, fun q hq => (h.2.2 q.1 q.2 (lz_mem.mp hq)).1⟩
theorem lh_st {ls' ls : Array Slot} {nL i : Nat} {vs : List (Option Value)} {v : Value} (h : lh ls nL vs) (hv : v.category = 1) (hi : i < vs.length) (h' : lv_has ls' nL ((i, v) :: (lz vs).filter (fun q => !(q.1 == i) && !(q.1 + 1 == i && q.2.category == 2)))) : lh ls' nL (vs.set i (some v)) := by
  refine ⟨h'.1, h'.2.1, fun j u hj => ?_⟩
  by_cases hji : j = i
  · subst hji
    rw [List.getElem?_set_self hi] at hj
    cases hj
    exact ⟨h'.2.2 _ List.mem_cons_self, hv⟩
  · rw [List.getElem?_set_ne (Ne.symm hji)] at hj
    have hc := (h.2.2 j u hj).2
    refine ⟨h'.2.2 (j, u) (List.mem_cons_of_mem _ (List.mem_filter.mpr ⟨lz_mem.mpr hj, ?_⟩)), hc⟩
    simp [hji, hc]
/-- a method: its name, bytes, locals, answer, frames and words of locals that its calls take -/
abbrev MD : Type := MethodName × ByteArray × Nat × Option FieldType × Nat × Nat × Nat × Nat
abbrev VG : Type := Program × Launch × Env × Room × State × MethodId × Array Value × List Frame × Method × Code
abbrev gP (g : VG) : Program := g.1
abbrev gL (g : VG) : Launch := g.2.1
abbrev gE (g : VG) : Env := g.2.2.1
abbrev gR (g : VG) : Room := g.2.2.2.1
abbrev gS (g : VG) : State := g.2.2.2.2.1
abbrev gM (g : VG) : MethodId := g.2.2.2.2.2.1
abbrev gA (g : VG) : Array Value := g.2.2.2.2.2.2.1
abbrev gB (g : VG) : List Frame := g.2.2.2.2.2.2.2.1
abbrev gH (g : VG) : Method := g.2.2.2.2.2.2.2.2.1
abbrev gC (g : VG) : Code := g.2.2.2.2.2.2.2.2.2
def Okm (y : MD) (w : TG) (g : VG) : Prop := (gP g).tables.exec = Jvm.exec ∧ (gC g).code = y.2.1 ∧ (gC g).maxLocals = y.2.2.1 ∧ (gS g).vm.findClass y.1.cls = some (gM g).cls ∧ (∀ t ∈ gtb, t.before (gA g) (gS g) = true) ∧ (gH g).sig.returnType = y.2.2.2.1 ∧ (gH g).locks = false ∧ va_K (wD w) cls5 (wT w) (gS g) ∧ wB w ≤ (gS g).heap.size ∧ (gR g).frames = y.2.2.2.2.1 ∧ (gR g).locals = y.2.2.2.2.2.1 ∧ (gR g).cells = y.2.2.2.2.2.2.1 ∧ (gR g).slots = y.2.2.2.2.2.2.2 ∧ Xt w (gS g) (gS g).heap ∧ (gL g).stackTraces = false
abbrev WW (g : VG) (H : Heap) (locs : List Loc) (kc ks : Nat) (Q : State → Prop) (f : JFrame) : Prop := W (gP g) (gL g) (gE g) (gR g) (gS g) (gM g) (gA g) (gB g) (gH g) (gC g) H locs kc ks Q f
/-- at pc, with such locals, stack and memory, the machine comes to Q -/
def VH (y : MD) (w : TG) (g : VG) (kc ks : Nat) (Q : State → Prop) (pc : Nat) (vs : List (Option Value)) (st : List Value) (σ : MS) : Prop :=
  ∀ (H : Heap) (locs : List Loc) (ls : Array Slot), va_P (wD w) cls5 (wsp w σ) H → va_S (wA w) (gS g).heap H locs → lh ls y.2.2.1 vs → WW g H locs kc ks Q (F0 (gM g) pc ls st)
/-- whatever X gives, and what κ says of it: the machine comes to Q -/
def VV (y : MD) (w : TG) (g : VG) (kc ks : Nat) (Q : State → Prop) {β : Type} (κ : β → Prop) (pc : Nat) (vs : List (Option Value)) (st : List Value) (σ : MS) (X : Option β) : Prop :=
  ∀ b : β, X = some b → κ b → Okm y w g → VH y w g kc ks Q pc vs st σ
section VR
variable {y : MD} {w : TG} {g : VG} {kc ks : Nat} {Q : State → Prop} {β : Type} {κ : β → Prop} {pc : Nat} {vs : List (Option Value)} {rest : List Value} {σ : MS} {X : Option β}
end VR
def mnI (a c : Int32) : Int32 := if c < a then c else a
def mxI (a c : Int32) : Int32 := if a < c then c else a
def remI (a c : Int32) : Int32 := a - a / c * c
def shlI (a c : Int32) : Int32 := a <<< (c &&& 31)
def shrI (a c : Int32) : Int32 := a >>> (c &&& 31)
def ushI (a c : Int32) : Int32 := (a.toUInt32 >>> (c.toUInt32 &&& Int32.toUInt32 31)).toInt32
def i2c (a : Int32) : Int32 := (a.toUInt32 % 65536).toInt32
def b2b (a : Int32) : Int32 := a.toInt8.toInt32
def ltM {β : Type} (s : MS) (E : MS → Option β) : Option β := E s
section VR
variable {y : MD} {w : TG} {g : VG} {kc ks : Nat} {Q : State → Prop} {β : Type} {κ : β → Prop} {pc : Nat} {vs : List (Option Value)} {rest : List Value} {σ : MS} {X : Option β}
theorem V_iload {i : Nat} {x : Int32} (hd : decode y.2.1 pc = .ok (.iload i, 2)) (hl : vs[i]? = some (some (.int x))) (k : VV y w g kc ks Q κ (pc + 2) vs (.int x :: rest) σ X) : VV y w g kc ks Q κ pc vs (rest) σ X :=
  fun b hb hk ok H locs ls hP hS hl' => lv_iload ok.1 ok.2.1 hd (hl'.2.2 _ _ hl).1 (k b hb hk ok H locs ls hP hS hl')
theorem V_iload_n {j : Fin 4} {i : Nat} {x : Int32} (hd : decode y.2.1 pc = .ok (.iload_n j, 1)) (hi : (j : Nat) = i) (hl : vs[i]? = some (some (.int x))) (k : VV y w g kc ks Q κ (pc + 1) vs (.int x :: rest) σ X) : VV y w g kc ks Q κ pc vs (rest) σ X :=
  fun b hb hk ok H locs ls hP hS hl' => lv_iload_n ok.1 ok.2.1 hd hi (hl'.2.2 _ _ hl).1 (k b hb hk ok H locs ls hP hS hl')
theorem V_aload {i x : Nat} (hd : decode y.2.1 pc = .ok (.aload i, 2)) (hl : vs[i]? = some (some (.ref x))) (k : VV y w g kc ks Q κ (pc + 2) vs (.ref x :: rest) σ X) : VV y w g kc ks Q κ pc vs (rest) σ X :=
  fun b hb hk ok H locs ls hP hS hl' => lv_aload ok.1 ok.2.1 hd (hl'.2.2 _ _ hl).1 (k b hb hk ok H locs ls hP hS hl')
theorem V_aload_n {j : Fin 4} {i x : Nat} (hd : decode y.2.1 pc = .ok (.aload_n j, 1)) (hi : (j : Nat) = i) (hl : vs[i]? = some (some (.ref x))) (k : VV y w g kc ks Q κ (pc + 1) vs (.ref x :: rest) σ X) : VV y w g kc ks Q κ pc vs (rest) σ X :=
  fun b hb hk ok H locs ls hP hS hl' => lv_aload_n ok.1 ok.2.1 hd hi (hl'.2.2 _ _ hl).1 (k b hb hk ok H locs ls hP hS hl')
theorem V_iconst {n : Int} {v : Int32} (hd : decode y.2.1 pc = .ok (.iconst n, 1)) (hv : Int32.ofInt n = v) (k : VV y w g kc ks Q κ (pc + 1) vs (.int v :: rest) σ X) : VV y w g kc ks Q κ pc vs (rest) σ X :=
  fun b hb hk ok H locs ls hP hS hl' => lv_iconst ok.1 ok.2.1 hd hv (k b hb hk ok H locs ls hP hS hl')
theorem V_bipush {n : Int} {v : Int32} (hd : decode y.2.1 pc = .ok (.bipush n, 2)) (hv : (Int8.ofInt n).toInt32 = v) (k : VV y w g kc ks Q κ (pc + 2) vs (.int v :: rest) σ X) : VV y w g kc ks Q κ pc vs (rest) σ X :=
  fun b hb hk ok H locs ls hP hS hl' => lv_bipush ok.1 ok.2.1 hd hv (k b hb hk ok H locs ls hP hS hl')
theorem V_sipush {n : Int} {v : Int32} (hd : decode y.2.1 pc = .ok (.sipush n, 3)) (hv : (Int16.ofInt n).toInt32 = v) (k : VV y w g kc ks Q κ (pc + 3) vs (.int v :: rest) σ X) : VV y w g kc ks Q κ pc vs (rest) σ X :=
  fun b hb hk ok H locs ls hP hS hl' => lv_sipush ok.1 ok.2.1 hd hv (k b hb hk ok H locs ls hP hS hl')
theorem V_lconst {n : Fin 2} {v : Int64} (hd : decode y.2.1 pc = .ok (.lconst n, 1)) (hv : Int64.ofNat (n : Nat) = v) (k : VV y w g kc ks Q κ (pc + 1) vs (.long v :: rest) σ X) : VV y w g kc ks Q κ pc vs (rest) σ X :=
  fun b hb hk ok H locs ls hP hS hl' => lv_lconst ok.1 ok.2.1 hd hv (k b hb hk ok H locs ls hP hS hl')
theorem V_ldc {own : String} {index : Nat} {v : Int32} (hd : decode y.2.1 pc = .ok (.ldc index, 2)) (ho : y.1.cls = own) (hc : Cond.constant own index v ∈ gtb) (k : VV y w g kc ks Q κ (pc + 2) vs (.int v :: rest) σ X) : VV y w g kc ks Q κ pc vs (rest) σ X :=
  fun b hb hk ok H locs ls hP hS hl' => lv_ldc ok.1 ok.2.1 (by rw [← ho]; exact ok.2.2.2.1) (ok.2.2.2.2.1 _ hc) hd (k b hb hk ok H locs ls hP hS hl')
theorem V_ldcw {own : String} {index : Nat} {v : Int32} (hd : decode y.2.1 pc = .ok (.ldc_w index, 3)) (ho : y.1.cls = own) (hc : Cond.constant own index v ∈ gtb) (k : VV y w g kc ks Q κ (pc + 3) vs (.int v :: rest) σ X) : VV y w g kc ks Q κ pc vs (rest) σ X :=
  fun b hb hk ok H locs ls hP hS hl' => lv_ldcw ok.1 ok.2.1 (by rw [← ho]; exact ok.2.2.2.1) (ok.2.2.2.2.1 _ hc) hd (k b hb hk ok H locs ls hP hS hl')
theorem V_iadd {a c : Int32} (hd : decode y.2.1 pc = .ok (.iadd, 1))  (k : VV y w g kc ks Q κ (pc + 1) vs (.int (a + c) :: rest) σ X) : VV y w g kc ks Q κ pc vs (.int c :: .int a :: rest) σ X :=
  fun b hb hk ok H locs ls hP hS hl' => lv_iadd ok.1 ok.2.1 hd  (k b hb hk ok H locs ls hP hS hl')
theorem V_isub {a c : Int32} (hd : decode y.2.1 pc = .ok (.isub, 1))  (k : VV y w g kc ks Q κ (pc + 1) vs (.int (a - c) :: rest) σ X) : VV y w g kc ks Q κ pc vs (.int c :: .int a :: rest) σ X :=
  fun b hb hk ok H locs ls hP hS hl' => lv_isub ok.1 ok.2.1 hd  (k b hb hk ok H locs ls hP hS hl')
theorem V_imul {a c : Int32} (hd : decode y.2.1 pc = .ok (.imul, 1))  (k : VV y w g kc ks Q κ (pc + 1) vs (.int (a * c) :: rest) σ X) : VV y w g kc ks Q κ pc vs (.int c :: .int a :: rest) σ X :=
  fun b hb hk ok H locs ls hP hS hl' => lv_imul ok.1 ok.2.1 hd  (k b hb hk ok H locs ls hP hS hl')
theorem V_iand {a c : Int32} (hd : decode y.2.1 pc = .ok (.iand, 1))  (k : VV y w g kc ks Q κ (pc + 1) vs (.int (a &&& c) :: rest) σ X) : VV y w g kc ks Q κ pc vs (.int c :: .int a :: rest) σ X :=
  fun b hb hk ok H locs ls hP hS hl' => lv_iand ok.1 ok.2.1 hd  (k b hb hk ok H locs ls hP hS hl')
theorem V_ior {a c : Int32} (hd : decode y.2.1 pc = .ok (.ior, 1))  (k : VV y w g kc ks Q κ (pc + 1) vs (.int (a ||| c) :: rest) σ X) : VV y w g kc ks Q κ pc vs (.int c :: .int a :: rest) σ X :=
  fun b hb hk ok H locs ls hP hS hl' => lv_ior ok.1 ok.2.1 hd  (k b hb hk ok H locs ls hP hS hl')
theorem V_ixor {a c : Int32} (hd : decode y.2.1 pc = .ok (.ixor, 1))  (k : VV y w g kc ks Q κ (pc + 1) vs (.int (a ^^^ c) :: rest) σ X) : VV y w g kc ks Q κ pc vs (.int c :: .int a :: rest) σ X :=
  fun b hb hk ok H locs ls hP hS hl' => lv_ixor ok.1 ok.2.1 hd  (k b hb hk ok H locs ls hP hS hl')
theorem V_idiv {a c : Int32} (hd : decode y.2.1 pc = .ok (.idiv, 1)) (hn : ¬ c = 0) (k : VV y w g kc ks Q κ (pc + 1) vs (.int (a / c) :: rest) σ X) : VV y w g kc ks Q κ pc vs (.int c :: .int a :: rest) σ X :=
  fun b hb hk ok H locs ls hP hS hl' => lv_idiv ok.1 ok.2.1 hd hn (k b hb hk ok H locs ls hP hS hl')
theorem V_irem {a c : Int32} (hd : decode y.2.1 pc = .ok (.irem, 1)) (hn : ¬ c = 0) (k : VV y w g kc ks Q κ (pc + 1) vs (.int (remI a c) :: rest) σ X) : VV y w g kc ks Q κ pc vs (.int c :: .int a :: rest) σ X :=
  fun b hb hk ok H locs ls hP hS hl' => lv_irem ok.1 ok.2.1 hd hn (k b hb hk ok H locs ls hP hS hl')
theorem V_ishl {a c : Int32} (hd : decode y.2.1 pc = .ok (.ishl, 1))  (k : VV y w g kc ks Q κ (pc + 1) vs (.int (shlI a c) :: rest) σ X) : VV y w g kc ks Q κ pc vs (.int c :: .int a :: rest) σ X :=
  fun b hb hk ok H locs ls hP hS hl' => lv_ishl ok.1 ok.2.1 hd  (k b hb hk ok H locs ls hP hS hl')
theorem V_ishr {a c : Int32} (hd : decode y.2.1 pc = .ok (.ishr, 1))  (k : VV y w g kc ks Q κ (pc + 1) vs (.int (shrI a c) :: rest) σ X) : VV y w g kc ks Q κ pc vs (.int c :: .int a :: rest) σ X :=
  fun b hb hk ok H locs ls hP hS hl' => lv_ishr ok.1 ok.2.1 hd  (k b hb hk ok H locs ls hP hS hl')
theorem V_iushr {a c : Int32} (hd : decode y.2.1 pc = .ok (.iushr, 1))  (k : VV y w g kc ks Q κ (pc + 1) vs (.int (ushI a c) :: rest) σ X) : VV y w g kc ks Q κ pc vs (.int c :: .int a :: rest) σ X :=
  fun b hb hk ok H locs ls hP hS hl' => lv_iushr ok.1 ok.2.1 hd rfl (k b hb hk ok H locs ls hP hS hl')
theorem V_ineg {a : Int32} (hd : decode y.2.1 pc = .ok (.ineg, 1))  (k : VV y w g kc ks Q κ (pc + 1) vs (.int (-a) :: rest) σ X) : VV y w g kc ks Q κ pc vs (.int a :: rest) σ X :=
  fun b hb hk ok H locs ls hP hS hl' => lv_ineg ok.1 ok.2.1 hd  (k b hb hk ok H locs ls hP hS hl')
theorem V_i2c {a : Int32} (hd : decode y.2.1 pc = .ok (.i2c, 1))  (k : VV y w g kc ks Q κ (pc + 1) vs (.int (i2c a) :: rest) σ X) : VV y w g kc ks Q κ pc vs (.int a :: rest) σ X :=
  fun b hb hk ok H locs ls hP hS hl' => lv_i2c ok.1 ok.2.1 hd rfl (k b hb hk ok H locs ls hP hS hl')
theorem V_i2b {a : Int32} (hd : decode y.2.1 pc = .ok (.i2b, 1))  (k : VV y w g kc ks Q κ (pc + 1) vs (.int (b2b a) :: rest) σ X) : VV y w g kc ks Q κ pc vs (.int a :: rest) σ X :=
  fun b hb hk ok H locs ls hP hS hl' => lv_i2b ok.1 ok.2.1 hd rfl (k b hb hk ok H locs ls hP hS hl')
theorem V_i2l {a : Int32} (hd : decode y.2.1 pc = .ok (.i2l, 1))  (k : VV y w g kc ks Q κ (pc + 1) vs (.long (a.toInt64) :: rest) σ X) : VV y w g kc ks Q κ pc vs (.int a :: rest) σ X :=
  fun b hb hk ok H locs ls hP hS hl' => lv_i2l ok.1 ok.2.1 hd rfl (k b hb hk ok H locs ls hP hS hl')
theorem V_dup {v : Value} (hd : decode y.2.1 pc = .ok (.dup, 1)) (hv : v.category = 1) (k : VV y w g kc ks Q κ (pc + 1) vs (v :: v :: rest) σ X) : VV y w g kc ks Q κ pc vs (v :: rest) σ X :=
  fun b hb hk ok H locs ls hP hS hl' => lv_dup ok.1 ok.2.1 hd hv (k b hb hk ok H locs ls hP hS hl')
theorem V_pop {v : Value} (hd : decode y.2.1 pc = .ok (.pop, 1)) (hv : v.category = 1) (k : VV y w g kc ks Q κ (pc + 1) vs (rest) σ X) : VV y w g kc ks Q κ pc vs (v :: rest) σ X :=
  fun b hb hk ok H locs ls hP hS hl' => lv_pop ok.1 ok.2.1 hd hv (k b hb hk ok H locs ls hP hS hl')
theorem V_dup2 {v u : Value} (hd : decode y.2.1 pc = .ok (.dup2, 1)) (hv : v.category = 1) (hu : u.category = 1) (k : VV y w g kc ks Q κ (pc + 1) vs (v :: u :: v :: u :: rest) σ X) : VV y w g kc ks Q κ pc vs (v :: u :: rest) σ X :=
  fun b hb hk ok H locs ls hP hS hl' => lv_dup2_11 ok.1 ok.2.1 hd hv hu (k b hb hk ok H locs ls hP hS hl')
theorem V_idivG {a c : Int32} (hd : decode y.2.1 pc = .ok (.idiv, 1)) (k : VV y w g kc ks Q κ (pc + 1) vs (.int (a / c) :: rest) σ X) : VV y w g kc ks Q κ pc vs (.int c :: .int a :: rest) σ (if c = 0 then none else X) := by
  intro b hb
  by_cases h : c = 0
  · rw [if_pos h] at hb; cases hb
  · rw [if_neg h] at hb
    exact V_idiv hd h k b hb
theorem V_iremG {a c : Int32} (hd : decode y.2.1 pc = .ok (.irem, 1)) (k : VV y w g kc ks Q κ (pc + 1) vs (.int (remI a c) :: rest) σ X) : VV y w g kc ks Q κ pc vs (.int c :: .int a :: rest) σ (if c = 0 then none else X) := by
  intro b hb
  by_cases h : c = 0
  · rw [if_pos h] at hb; cases hb
  · rw [if_neg h] at hb
    exact V_irem hd h k b hb
theorem V_istore {i : Nat} {x : Int32} {vs' : List (Option Value)} (hd : decode y.2.1 pc = .ok (.istore i, 2)) (hn : i < y.2.2.1) (hi : i < vs.length) (hs : vs.set i (some (.int x)) = vs') (k : VV y w g kc ks Q κ (pc + 2) vs' rest σ X) : VV y w g kc ks Q κ pc vs (.int x :: rest) σ X := by
  subst hs
  exact fun b hb hk ok H locs ls hP hS hl' => lv_istore ok.1 ok.2.1 hd (lh_lv hl') hn rfl (fun ls' h' => k b hb hk ok H locs ls' hP hS (lh_st hl' rfl hi h'))
theorem V_istore_n {j : Fin 4} {i : Nat} {x : Int32} {vs' : List (Option Value)} (hd : decode y.2.1 pc = .ok (.istore_n j, 1)) (hj : (j : Nat) = i) (hn : i < y.2.2.1) (hi : i < vs.length) (hs : vs.set i (some (.int x)) = vs') (k : VV y w g kc ks Q κ (pc + 1) vs' rest σ X) : VV y w g kc ks Q κ pc vs (.int x :: rest) σ X := by
  subst hs
  exact fun b hb hk ok H locs ls hP hS hl' => lv_istore_n ok.1 ok.2.1 hd hj (lh_lv hl') hn rfl (fun ls' h' => k b hb hk ok H locs ls' hP hS (lh_st hl' rfl hi h'))
theorem V_astore {i : Nat} {x : Nat} {vs' : List (Option Value)} (hd : decode y.2.1 pc = .ok (.astore i, 2)) (hn : i < y.2.2.1) (hi : i < vs.length) (hs : vs.set i (some (.ref x)) = vs') (k : VV y w g kc ks Q κ (pc + 2) vs' rest σ X) : VV y w g kc ks Q κ pc vs (.ref x :: rest) σ X := by
  subst hs
  exact fun b hb hk ok H locs ls hP hS hl' => lv_astore ok.1 ok.2.1 hd (lh_lv hl') hn rfl (fun ls' h' => k b hb hk ok H locs ls' hP hS (lh_st hl' rfl hi h'))
theorem V_astore_n {j : Fin 4} {i : Nat} {x : Nat} {vs' : List (Option Value)} (hd : decode y.2.1 pc = .ok (.astore_n j, 1)) (hj : (j : Nat) = i) (hn : i < y.2.2.1) (hi : i < vs.length) (hs : vs.set i (some (.ref x)) = vs') (k : VV y w g kc ks Q κ (pc + 1) vs' rest σ X) : VV y w g kc ks Q κ pc vs (.ref x :: rest) σ X := by
  subst hs
  exact fun b hb hk ok H locs ls hP hS hl' => lv_astore_n ok.1 ok.2.1 hd hj (lh_lv hl') hn rfl (fun ls' h' => k b hb hk ok H locs ls' hP hS (lh_st hl' rfl hi h'))
theorem V_iinc {i : Nat} {n : Int} {x v : Int32} {vs' : List (Option Value)} (hd : decode y.2.1 pc = .ok (.iinc i n, 3)) (hn : i < y.2.2.1) (hl : vs[i]? = some (some (.int x))) (hv : x + Int32.ofInt n = v) (hs : vs.set i (some (.int v)) = vs') (k : VV y w g kc ks Q κ (pc + 3) vs' rest σ X) : VV y w g kc ks Q κ pc vs rest σ X := by
  subst hs
  intro b hb hk ok H locs ls hP hS hl'
  obtain ⟨j, hj⟩ := List.getElem?_of_mem (lz_mem.mpr hl)
  exact lv_iinc ok.1 ok.2.1 hd (lh_lv hl') hj hv hn rfl (fun ls' h' => k b hb hk ok H locs ls' hP hS (lh_st hl' rfl (List.getElem?_eq_some_iff.mp hl).1 h'))
theorem V_icmp_eq {a c : Int32} {off : Int} {tgt : Nat} {X1 X2 : Option β} (hd : decode y.2.1 pc = .ok (.if_icmp .eq off, 3)) (ht : (pc : Int) + off = (tgt : Int)) (kt : VV y w g kc ks Q κ tgt vs rest σ X1) (kf : VV y w g kc ks Q κ (pc + 3) vs rest σ X2) : VV y w g kc ks Q κ pc vs (.int c :: .int a :: rest) σ (if a = c then X1 else X2) :=
  fun b hb hk ok H locs ls hP hS hl' => lv_icmp_eq ok.1 ok.2.1 hd ht (fun h => kt b (by rw [if_pos h] at hb; exact hb) hk ok H locs ls hP hS hl') (fun h => kf b (by rw [if_neg h] at hb; exact hb) hk ok H locs ls hP hS hl')
theorem V_if_eq {a : Int32} {off : Int} {tgt : Nat} {X1 X2 : Option β} (hd : decode y.2.1 pc = .ok (.ifCond .eq off, 3)) (ht : (pc : Int) + off = (tgt : Int)) (kt : VV y w g kc ks Q κ tgt vs rest σ X1) (kf : VV y w g kc ks Q κ (pc + 3) vs rest σ X2) : VV y w g kc ks Q κ pc vs (.int a :: rest) σ (if a = 0 then X1 else X2) :=
  fun b hb hk ok H locs ls hP hS hl' => lv_if_eq ok.1 ok.2.1 hd ht (fun h => kt b (by rw [if_pos h] at hb; exact hb) hk ok H locs ls hP hS hl') (fun h => kf b (by rw [if_neg h] at hb; exact hb) hk ok H locs ls hP hS hl')
theorem V_icmp_lt {a c : Int32} {off : Int} {tgt : Nat} {X1 X2 : Option β} (hd : decode y.2.1 pc = .ok (.if_icmp .lt off, 3)) (ht : (pc : Int) + off = (tgt : Int)) (kt : VV y w g kc ks Q κ tgt vs rest σ X1) (kf : VV y w g kc ks Q κ (pc + 3) vs rest σ X2) : VV y w g kc ks Q κ pc vs (.int c :: .int a :: rest) σ (if a < c then X1 else X2) :=
  fun b hb hk ok H locs ls hP hS hl' => lv_icmp_lt ok.1 ok.2.1 hd ht (fun h => kt b (by rw [if_pos h] at hb; exact hb) hk ok H locs ls hP hS hl') (fun h => kf b (by rw [if_neg h] at hb; exact hb) hk ok H locs ls hP hS hl')
theorem V_if_lt {a : Int32} {off : Int} {tgt : Nat} {X1 X2 : Option β} (hd : decode y.2.1 pc = .ok (.ifCond .lt off, 3)) (ht : (pc : Int) + off = (tgt : Int)) (kt : VV y w g kc ks Q κ tgt vs rest σ X1) (kf : VV y w g kc ks Q κ (pc + 3) vs rest σ X2) : VV y w g kc ks Q κ pc vs (.int a :: rest) σ (if a < 0 then X1 else X2) :=
  fun b hb hk ok H locs ls hP hS hl' => lv_if_lt ok.1 ok.2.1 hd ht (fun h => kt b (by rw [if_pos h] at hb; exact hb) hk ok H locs ls hP hS hl') (fun h => kf b (by rw [if_neg h] at hb; exact hb) hk ok H locs ls hP hS hl')
theorem V_icmp_ge {a c : Int32} {off : Int} {tgt : Nat} {X1 X2 : Option β} (hd : decode y.2.1 pc = .ok (.if_icmp .ge off, 3)) (ht : (pc : Int) + off = (tgt : Int)) (kt : VV y w g kc ks Q κ tgt vs rest σ X1) (kf : VV y w g kc ks Q κ (pc + 3) vs rest σ X2) : VV y w g kc ks Q κ pc vs (.int c :: .int a :: rest) σ (if c ≤ a then X1 else X2) :=
  fun b hb hk ok H locs ls hP hS hl' => lv_icmp_ge ok.1 ok.2.1 hd ht (fun h => kt b (by rw [if_pos h] at hb; exact hb) hk ok H locs ls hP hS hl') (fun h => kf b (by rw [if_neg h] at hb; exact hb) hk ok H locs ls hP hS hl')
theorem V_if_ge {a : Int32} {off : Int} {tgt : Nat} {X1 X2 : Option β} (hd : decode y.2.1 pc = .ok (.ifCond .ge off, 3)) (ht : (pc : Int) + off = (tgt : Int)) (kt : VV y w g kc ks Q κ tgt vs rest σ X1) (kf : VV y w g kc ks Q κ (pc + 3) vs rest σ X2) : VV y w g kc ks Q κ pc vs (.int a :: rest) σ (if 0 ≤ a then X1 else X2) :=
  fun b hb hk ok H locs ls hP hS hl' => lv_if_ge ok.1 ok.2.1 hd ht (fun h => kt b (by rw [if_pos h] at hb; exact hb) hk ok H locs ls hP hS hl') (fun h => kf b (by rw [if_neg h] at hb; exact hb) hk ok H locs ls hP hS hl')
theorem V_icmp_gt {a c : Int32} {off : Int} {tgt : Nat} {X1 X2 : Option β} (hd : decode y.2.1 pc = .ok (.if_icmp .gt off, 3)) (ht : (pc : Int) + off = (tgt : Int)) (kt : VV y w g kc ks Q κ tgt vs rest σ X1) (kf : VV y w g kc ks Q κ (pc + 3) vs rest σ X2) : VV y w g kc ks Q κ pc vs (.int c :: .int a :: rest) σ (if c < a then X1 else X2) :=
  fun b hb hk ok H locs ls hP hS hl' => lv_icmp_gt ok.1 ok.2.1 hd ht (fun h => kt b (by rw [if_pos h] at hb; exact hb) hk ok H locs ls hP hS hl') (fun h => kf b (by rw [if_neg h] at hb; exact hb) hk ok H locs ls hP hS hl')
theorem V_if_gt {a : Int32} {off : Int} {tgt : Nat} {X1 X2 : Option β} (hd : decode y.2.1 pc = .ok (.ifCond .gt off, 3)) (ht : (pc : Int) + off = (tgt : Int)) (kt : VV y w g kc ks Q κ tgt vs rest σ X1) (kf : VV y w g kc ks Q κ (pc + 3) vs rest σ X2) : VV y w g kc ks Q κ pc vs (.int a :: rest) σ (if 0 < a then X1 else X2) :=
  fun b hb hk ok H locs ls hP hS hl' => lv_if_gt ok.1 ok.2.1 hd ht (fun h => kt b (by rw [if_pos h] at hb; exact hb) hk ok H locs ls hP hS hl') (fun h => kf b (by rw [if_neg h] at hb; exact hb) hk ok H locs ls hP hS hl')
theorem V_icmp_le {a c : Int32} {off : Int} {tgt : Nat} {X1 X2 : Option β} (hd : decode y.2.1 pc = .ok (.if_icmp .le off, 3)) (ht : (pc : Int) + off = (tgt : Int)) (kt : VV y w g kc ks Q κ tgt vs rest σ X1) (kf : VV y w g kc ks Q κ (pc + 3) vs rest σ X2) : VV y w g kc ks Q κ pc vs (.int c :: .int a :: rest) σ (if a ≤ c then X1 else X2) :=
  fun b hb hk ok H locs ls hP hS hl' => lv_icmp_le ok.1 ok.2.1 hd ht (fun h => kt b (by rw [if_pos h] at hb; exact hb) hk ok H locs ls hP hS hl') (fun h => kf b (by rw [if_neg h] at hb; exact hb) hk ok H locs ls hP hS hl')
theorem V_if_le {a : Int32} {off : Int} {tgt : Nat} {X1 X2 : Option β} (hd : decode y.2.1 pc = .ok (.ifCond .le off, 3)) (ht : (pc : Int) + off = (tgt : Int)) (kt : VV y w g kc ks Q κ tgt vs rest σ X1) (kf : VV y w g kc ks Q κ (pc + 3) vs rest σ X2) : VV y w g kc ks Q κ pc vs (.int a :: rest) σ (if a ≤ 0 then X1 else X2) :=
  fun b hb hk ok H locs ls hP hS hl' => lv_if_le ok.1 ok.2.1 hd ht (fun h => kt b (by rw [if_pos h] at hb; exact hb) hk ok H locs ls hP hS hl') (fun h => kf b (by rw [if_neg h] at hb; exact hb) hk ok H locs ls hP hS hl')
theorem V_icmp_ne {a c : Int32} {off : Int} {tgt : Nat} {X1 X2 : Option β} (hd : decode y.2.1 pc = .ok (.if_icmp .ne off, 3)) (ht : (pc : Int) + off = (tgt : Int)) (kt : VV y w g kc ks Q κ tgt vs rest σ X1) (kf : VV y w g kc ks Q κ (pc + 3) vs rest σ X2) : VV y w g kc ks Q κ pc vs (.int c :: .int a :: rest) σ (if a = c then X2 else X1) :=
  fun b hb hk ok H locs ls hP hS hl' => lv_icmp_ne ok.1 ok.2.1 hd ht (fun h => kt b (by rw [if_neg h] at hb; exact hb) hk ok H locs ls hP hS hl') (fun h => kf b (by rw [if_pos h] at hb; exact hb) hk ok H locs ls hP hS hl')
theorem V_if_ne {a : Int32} {off : Int} {tgt : Nat} {X1 X2 : Option β} (hd : decode y.2.1 pc = .ok (.ifCond .ne off, 3)) (ht : (pc : Int) + off = (tgt : Int)) (kt : VV y w g kc ks Q κ tgt vs rest σ X1) (kf : VV y w g kc ks Q κ (pc + 3) vs rest σ X2) : VV y w g kc ks Q κ pc vs (.int a :: rest) σ (if a = 0 then X2 else X1) :=
  fun b hb hk ok H locs ls hP hS hl' => lv_if_ne ok.1 ok.2.1 hd ht (fun h => kt b (by rw [if_neg h] at hb; exact hb) hk ok H locs ls hP hS hl') (fun h => kf b (by rw [if_pos h] at hb; exact hb) hk ok H locs ls hP hS hl')
theorem V_goto {off : Int} {tgt : Nat} (hd : decode y.2.1 pc = .ok (.goto off, 3)) (ht : (pc : Int) + off = (tgt : Int)) (k : VV y w g kc ks Q κ tgt vs rest σ X) : VV y w g kc ks Q κ pc vs rest σ X :=
  fun b hb hk ok H locs ls hP hS hl' => lv_goto ok.1 ok.2.1 hd ht (k b hb hk ok H locs ls hP hS hl')
theorem V_none {st : List Value} : VV y w g kc ks Q κ pc vs st σ (none : Option β) := fun b hb => by cases hb
theorem V_back {st : List Value} {b : β} (h : κ b → VH y w g kc ks Q pc vs st σ) : VV y w g kc ks Q κ pc vs st σ (some b) := fun b' hb hk _ => by
  cases hb
  exact h hk
def vless : List (Option Value) → List (Option Value) → Prop
  | [], _ => True
  | none :: r, _ :: q => vless r q
  | none :: _, [] => True
  | some a :: r, some b :: q => a = b ∧ vless r q
  | some _ :: _, _ => False
theorem vless_at : ∀ {a b : List (Option Value)} {i : Nat} {v : Value}, vless a b → a[i]? = some (some v) → a.length = b.length → b[i]? = some (some v) := by
  intro a
  induction a with
  | nil => intro b i v _ h; simp at h
  | cons x r ih =>
    intro b i v h h2 h3
    match b, x with
    | [], _ => simp at h3
    | q :: qs, none =>
      cases i with
      | zero => simp at h2
      | succ i => simp only [List.getElem?_cons_succ] at h2 ⊢; exact ih (b := qs) h h2 (by simpa using h3)
    | some q :: qs, some x =>
      cases i with
      | zero => simp only [List.getElem?_cons_zero] at h2 ⊢; rw [← h.1]; exact h2
      | succ i => simp only [List.getElem?_cons_succ] at h2 ⊢; exact ih (b := qs) h.2 h2 (by simpa using h3)
    | none :: qs, some x => exact absurd h (by simp [vless])
theorem V_sub {st : List Value} {vs' : List (Option Value)} (h : vless vs' vs) (hn : vs'.length = vs.length) (k : VV y w g kc ks Q κ pc vs' st σ X) : VV y w g kc ks Q κ pc vs st σ X :=
  fun b hb hk ok H locs ls hP hS hl' => k b hb hk ok H locs ls hP hS ⟨hl'.1, hl'.2.1, fun i v hv => hl'.2.2 i v (vless_at h hv hn)⟩
/-- a loop, by a bound on its rounds -/
def itr {α β : Type} (f : α → Option (α ⊕ β)) : Nat → α → Option β
  | 0, _ => none
  | n + 1, a => (f a).bind (fun r => match r with
    | .inl a' => itr f n a'
    | .inr b => some b)
theorem V_loop {α : Type} {F : α → Option (α ⊕ β)} {vf : α → List (Option Value)} {sf : α → MS} (body : ∀ a, VV y w g kc ks Q (Sum.elim (fun a' => VH y w g kc ks Q pc (vf a') [] (sf a')) κ) pc (vf a) [] (sf a) (F a)) : ∀ (n : Nat) (a : α), VV y w g kc ks Q κ pc (vf a) [] (sf a) (itr F n a) := by
  intro n
  induction n with
  | zero => intro a b hb; cases hb
  | succ n ih =>
    intro a b hb hk ok
    obtain ⟨r, hr, hr2⟩ := Option.bind_eq_some_iff.mp hb
    match r, hr2 with
    | .inl a', hr2 => exact body a (.inl a') hr (ih a' b hr2 hk ok) ok
    | .inr b', hr2 =>
      cases hr2
      exact body a (.inr b) hr hk ok
/-- a field's word, its class and place -/
def fk (own : String) (index ci k : Nat) : Prop := ∃ (C : String) (T : u_T) (N : Nat), cls5[ci]? = some (C, T, N) ∧ (∀ t ∈ u_ws C T N, t ∈ gtb) ∧ k < N ∧ N = nf ci ∧ ci ≤ 12 ∧ Cond.fieldLink own index (T k).1 (T k).2.1 (T k).2.2.1 ∈ gtb
theorem V_get {own : String} {index ci k o : Nat} {v : Value} (hf : fk own index ci k) (ho : y.1.cls = own) (hd : decode y.2.1 pc = .ok (.getfield index, 3)) (hk : kd o = ci) (hv : (match rf ci k o with
  | some t => Value.ref (wB w + t)
  | none => .int (σ o k)) = v) (kk : VV y w g kc ks Q κ (pc + 3) vs (v :: rest) σ X) : VV y w g kc ks Q κ pc vs (.ref (wB w + o) :: rest) σ X := by
  intro b hb hκ ok H locs ls hP hS hl'
  obtain ⟨C, T, N, h1, h2, h3, h4, h5, h6⟩ := hf
  subst ho
  subst hk
  have ho : o < 184 := kd_lt (by omega)
  have he : (wsp w σ)[o]? = some (wB w + o, .inr (kd o, fl w σ o (kd o))) := by
    rw [wsp_at ho]
    simp only [ent, if_pos h5]
  exact va_get ok.1 ok.2.1 ok.2.2.2.2.1 h2 ok.2.2.2.1 ok.2.2.2.2.2.2.2.1 hP o he h1 k h3 (ok.2.2.2.2.1 _ h6) (fun _ h => h) (v := v) (by rw [fl_at (by omega), hv]) hd (kk b hb hκ ok H locs ls hP hS hl')
theorem V_geti {own : String} {index ci k o : Nat} (hf : fk own index ci k) (ho : y.1.cls = own) (hd : decode y.2.1 pc = .ok (.getfield index, 3)) (hk : kd o = ci) (hr : rf ci k o = none) (kk : VV y w g kc ks Q κ (pc + 3) vs (.int (σ o k) :: rest) σ X) : VV y w g kc ks Q κ pc vs (.ref (wB w + o) :: rest) σ X :=
  V_get hf ho hd hk (by rw [hr]) kk
theorem V_getr {own : String} {index ci k o t : Nat} (hf : fk own index ci k) (ho : y.1.cls = own) (hd : decode y.2.1 pc = .ok (.getfield index, 3)) (hk : kd o = ci) (hr : rf ci k o = some t) (kk : VV y w g kc ks Q κ (pc + 3) vs (.ref (wB w + t) :: rest) σ X) : VV y w g kc ks Q κ pc vs (.ref (wB w + o) :: rest) σ X :=
  V_get hf ho hd hk (by rw [hr]) kk
/-- the same for a field that is written -/
def fp (own : String) (index ci k : Nat) (ty : FieldType) : Prop := ∃ (C : String) (T : u_T) (N : Nat) (ty0 : Nat → FieldType), cls5[ci]? = some (C, T, N) ∧ (∀ t ∈ u_ws C T N, t ∈ gtb) ∧ k < N ∧ N = nf ci ∧ ci ≤ 12 ∧ Cond.fieldLink own index (T k).1 (T k).2.1 (T k).2.2.1 ∈ gtb ∧ (T k).2.2.2 = false ∧ parseFieldDescriptor (T k).2.2.1 = some ty ∧ (∀ k, k < N → parseFieldDescriptor (T k).2.2.1 = some (ty0 k)) ∧ ∀ a, a < N → ∀ b, b < N → a ≠ b → (T a).2.1 ≠ (T b).2.1
theorem V_put {E : MS → Option β} {own : String} {index ci k o : Nat} {v : Int32} {ty : FieldType} (hf : fp own index ci k ty) (ho : y.1.cls = own) (hd : decode y.2.1 pc = .ok (.putfield index, 3)) (hk : kd o = ci) (hr : rf ci k o = none) (hn : narrow ty (.int v) = .int v) (hft : fits ty (.int v) = true) (kk : ∀ s, VV y w g kc ks Q κ (pc + 3) vs rest s (E s)) : VV y w g kc ks Q κ pc vs (.int v :: .ref (wB w + o) :: rest) σ (ltM (mu σ o k v) E) := by
  intro b hb hκ ok H locs ls hP hS hl'
  obtain ⟨C, T, N, ty0, h1, h2, h3, h4, h5, h6, h7, h8, h9, h10⟩ := hf
  subst ho
  subst hk
  have ho : o < 184 := kd_lt (by omega)
  have he : (wsp w σ)[o]? = some (wB w + o, .inr (kd o, fl w σ o (kd o))) := by
    rw [wsp_at ho]
    simp only [ent, if_pos h5]
  have hw2 : (wsp w σ).set o (wB w + o, .inr (kd o, (fl w σ o (kd o)).set k (.int v))) = wsp w (mu σ o k v) := by
    apply wsp_set ho
    rw [fl_set (by omega) hr]
    simp only [ent, if_pos h5]
  refine va_put ok.1 ok.2.1 ok.2.2.2.2.1 h2 ty0 h9 h10 ok.2.2.2.1 ok.2.2.2.2.2.2.2.1 hP (wsp_D w σ) hS o he h1 k h3 (ok.2.2.2.2.1 _ h6) (fun _ h => h) h7 h8 hn hft (by simpa [fl] using (by omega : k < nf (kd o))) hd (fun H1 locs1 hP1 _ hS1 => ?_)
  rw [hw2] at hP1
  exact kk _ b hb hκ ok H1 locs1 ls hP1 hS1 hl'
theorem V_puti {E : MS → Option β} {own : String} {index ci k o : Nat} {v : Int32} (hf : fp own index ci k .int) (ho : y.1.cls = own) (hd : decode y.2.1 pc = .ok (.putfield index, 3)) (hk : kd o = ci) (hr : rf ci k o = none) (kk : ∀ s, VV y w g kc ks Q κ (pc + 3) vs rest s (E s)) : VV y w g kc ks Q κ pc vs (.int v :: .ref (wB w + o) :: rest) σ (ltM (mu σ o k v) E) :=
  V_put hf ho hd hk hr rfl rfl kk
/-- an index within, and its place -/
def inb (i : Int32) (n : Nat) : Bool := decide (0 ≤ i.toInt ∧ i.toInt < (n : Int))
abbrev ix (i : Int32) : Nat := i.toNatClampNeg
theorem inb_in {i : Int32} {n : Nat} (h : inb i n = true) : vp_in i n := by
  have h1 := of_decide_eq_true h
  intro h2
  rcases h2 with h2 | h2
  · have : i.toInt < (0 : Int32).toInt := Int32.lt_iff_toInt_lt.mp h2
    simp at this
    omega
  · have : i.toNatClampNeg = i.toInt.toNat := rfl
    omega
theorem V_iald {i : Int32} {o n : Nat} (hd : decode y.2.1 pc = .ok (.iaload, 1)) (hk : kd o = 13) (hn : ln o = n) (kk : VV y w g kc ks Q κ (pc + 1) vs (.int (σ o (ix i)) :: rest) σ X) : VV y w g kc ks Q κ pc vs (.int i :: .ref (wB w + o) :: rest) σ (if inb i n then X else none) := by
  intro b hb hκ ok H locs ls hP hS hl'
  by_cases hi : inb i n = true
  · rw [if_pos hi] at hb
    subst hn
    have ho : o < 184 := kd_lt (by omega)
    refine va_iald ok.1 ok.2.1 ok.2.2.2.2.2.2.2.1 hP o 0 (cA := w.2.1.1) (n := ln o) (f := σ o) ?_ rfl (inb_in hi) hd (kk b hb hκ ok H locs ls hP hS hl')
    rw [wsp_at ho]
    simp [ent, hk]
  · rw [if_neg hi] at hb
    cases hb
theorem V_bald {i : Int32} {o n : Nat} (hd : decode y.2.1 pc = .ok (.baload, 1)) (hk : kd o = 14) (hn : ln o = n) (kk : VV y w g kc ks Q κ (pc + 1) vs (.int (σ o (ix i)) :: rest) σ X) : VV y w g kc ks Q κ pc vs (.int i :: .ref (wB w + o) :: rest) σ (if inb i n then X else none) := by
  intro b hb hκ ok H locs ls hP hS hl'
  by_cases hi : inb i n = true
  · rw [if_pos hi] at hb
    subst hn
    have ho : o < 184 := kd_lt (by omega)
    refine va_bald ok.1 ok.2.1 ok.2.2.2.2.2.2.2.1 hP o 1 (cA := w.2.1.2.1) (n := ln o) (f := σ o) ?_ rfl (inb_in hi) hd (kk b hb hκ ok H locs ls hP hS hl')
    rw [wsp_at ho]
    simp [ent, hk]
  · rw [if_neg hi] at hb
    cases hb
theorem V_iast {E : MS → Option β} {i v : Int32} {o n : Nat} (hd : decode y.2.1 pc = .ok (.iastore, 1)) (hk : kd o = 13) (hn : ln o = n) (kk : ∀ s, VV y w g kc ks Q κ (pc + 1) vs rest s (E s)) : VV y w g kc ks Q κ pc vs (.int v :: .int i :: .ref (wB w + o) :: rest) σ (if inb i n then ltM (mu σ o (ix i) v) E else none) := by
  intro b hb hκ ok H locs ls hP hS hl'
  by_cases hi : inb i n = true
  · rw [if_pos hi] at hb
    subst hn
    have ho : o < 184 := kd_lt (by omega)
    have hw2 : (wsp w σ).set o (wB w + o, .inl (w.2.1.1, ln o, .inl (upd (σ o) i.toNatClampNeg v))) = wsp w (mu σ o (ix i) v) := by
      apply wsp_set ho
      simp [ent, hk, mu_self]
    refine va_iast ok.1 ok.2.1 ok.2.2.2.2.2.2.2.1 hP (wsp_D w σ) hS o 0 (cA := w.2.1.1) (n := ln o) (f := σ o) ?_ rfl (inb_in hi) hd (fun H1 locs1 hP1 _ hS1 => ?_)
    · rw [wsp_at ho]
      simp [ent, hk]
    · rw [hw2] at hP1
      exact kk _ b hb hκ ok H1 locs1 ls hP1 hS1 hl'
  · rw [if_neg hi] at hb
    cases hb
theorem V_bast {E : MS → Option β} {i v : Int32} {o n : Nat} (hd : decode y.2.1 pc = .ok (.bastore, 1)) (hk : kd o = 14) (hn : ln o = n) (kk : ∀ s, VV y w g kc ks Q κ (pc + 1) vs rest s (E s)) : VV y w g kc ks Q κ pc vs (.int v :: .int i :: .ref (wB w + o) :: rest) σ (if inb i n then ltM (mu σ o (ix i) (b2b v)) E else none) := by
  intro b hb hκ ok H locs ls hP hS hl'
  by_cases hi : inb i n = true
  · rw [if_pos hi] at hb
    subst hn
    have ho : o < 184 := kd_lt (by omega)
    have hw2 : (wsp w σ).set o (wB w + o, .inl (w.2.1.2.1, ln o, .inl (upd (σ o) i.toNatClampNeg (vp_nar .byte v)))) = wsp w (mu σ o (ix i) (b2b v)) := by
      apply wsp_set ho
      simp [ent, hk, mu_self, vp_nar_byte, b2b]
    refine va_bast ok.1 ok.2.1 ok.2.2.2.2.2.2.2.1 hP (wsp_D w σ) hS o 1 (cA := w.2.1.2.1) (n := ln o) (f := σ o) ?_ rfl (inb_in hi) hd (fun H1 locs1 hP1 _ hS1 => ?_)
    · rw [wsp_at ho]
      simp [ent, hk]
    · rw [hw2] at hP1
      exact kk _ b hb hκ ok H1 locs1 ls hP1 hS1 hl'
  · rw [if_neg hi] at hb
    cases hb
theorem V_ialdC {i : Int32} {o n : Nat} (hd : decode y.2.1 pc = .ok (.iaload, 1)) (hk : kd o = 13) (hn : ln o = n) (hi : inb i n = true) (kk : VV y w g kc ks Q κ (pc + 1) vs (.int (σ o (ix i)) :: rest) σ X) : VV y w g kc ks Q κ pc vs (.int i :: .ref (wB w + o) :: rest) σ X := by
  have h := V_iald (i := i) hd hk hn kk
  rw [if_pos hi] at h
  exact h
theorem V_baldC {i : Int32} {o n : Nat} (hd : decode y.2.1 pc = .ok (.baload, 1)) (hk : kd o = 14) (hn : ln o = n) (hi : inb i n = true) (kk : VV y w g kc ks Q κ (pc + 1) vs (.int (σ o (ix i)) :: rest) σ X) : VV y w g kc ks Q κ pc vs (.int i :: .ref (wB w + o) :: rest) σ X := by
  have h := V_bald (i := i) hd hk hn kk
  rw [if_pos hi] at h
  exact h
theorem V_iastC {E : MS → Option β} {i v : Int32} {o n : Nat} (hd : decode y.2.1 pc = .ok (.iastore, 1)) (hk : kd o = 13) (hn : ln o = n) (hi : inb i n = true) (kk : ∀ s, VV y w g kc ks Q κ (pc + 1) vs rest s (E s)) : VV y w g kc ks Q κ pc vs (.int v :: .int i :: .ref (wB w + o) :: rest) σ (ltM (mu σ o (ix i) v) E) := by
  have h := V_iast (i := i) (v := v) (E := E) (σ := σ) (rest := rest) hd hk hn kk
  rw [if_pos hi] at h
  exact h
/-- a whole row out of another -/
def mcp (σ : MS) (o0 o1 n : Nat) : MS := va_up σ o1 (fun k => if k < n then σ o0 k else σ o1 k)
theorem wsp_setf {w : TG} {σ : MS} {o : Nat} {f : Nat → Int32} {e : va_E} (ho : o < 184) (he : ent w (va_up σ o f) o = e) : (wsp w σ).set o (wB w + o, e) = wsp w (va_up σ o f) := by
  subst he
  apply List.ext_getElem?
  intro j
  by_cases hj : j = o
  · subst hj
    rw [List.getElem?_set_self (by simpa [wsp] using ho), wsp_at ho]
  · rw [List.getElem?_set_ne (Ne.symm hj)]
    by_cases hj2 : j < 184
    · rw [wsp_at hj2, wsp_at hj2]
      simp only [ent, fl, va_up_ne σ f hj]
    · rw [List.getElem?_eq_none (by simp [wsp]; omega), List.getElem?_eq_none (by simp [wsp]; omega)]
theorem V_copy {E : MS → Option β} {own : String} {index o0 o1 N : Nat} {n : Int32} (hd : decode y.2.1 pc = .ok (.invokestatic index, 3)) (ho : y.1.cls = own) (hw : Cond.methodLink own index arraycopyName ∈ gtb ∧ Cond.native arraycopyName ∈ gtb ∧ Cond.static arraycopyName ∈ gtb ∧ Cond.initialized "java/lang/System" ∈ gtb) (hf : 1 ≤ y.2.2.2.2.1) (hR : (rest.map fun v => v.category).sum + (nativeFrameWords "java/lang/System" "arraycopy" 5 + 11) ≤ y.2.2.2.2.2.1) (hk0 : kd o0 = 13) (hk1 : kd o1 = 13) (hn0 : ln o0 = N) (hn1 : ln o1 = N) (hn : n = Int32.ofNat N) (hN : N < 10000) (kk : ∀ s, VV y w g kc ks Q κ (pc + 3) vs rest s (E s)) :
    VV y w g kc ks Q κ pc vs (.int n :: .int 0 :: .ref (wB w + o1) :: .int 0 :: .ref (wB w + o0) :: rest) σ (ltM (mcp σ o0 o1 N) E) := by
  intro b hb hκ ok H locs ls hP hS hl'
  subst ho
  have h0 : o0 < 184 := kd_lt (by omega)
  have h1 : o1 < 184 := kd_lt (by omega)
  have hnn : n.toNatClampNeg = N := by rw [hn]; exact nI_clamp (by omega)
  have hnp : ¬ n < 0 := by rw [hn]; exact nI_pos (by omega)
  have hz : (0 : Int32).toNatClampNeg = 0 := rfl
  have hcp : va_cpy (σ o0) (σ o1) (0 : Int32).toNatClampNeg (0 : Int32).toNatClampNeg n.toNatClampNeg = (fun k => if k < N then σ o0 k else σ o1 k) := by
    funext k
    simp [va_cpy, hnn, hz]
  have hw2 : (wsp w σ).set o1 (wB w + o1, .inl (w.2.1.1, ln o1, .inl (fun k => if k < N then σ o0 k else σ o1 k))) = wsp w (mcp σ o0 o1 N) := by
    apply wsp_setf h1
    simp [ent, hk1, va_up]
  refine va_copyi ok.1 ok.2.1 (ok.2.2.1.trans hl'.1.symm) ok.2.2.2.1 (ok.2.2.2.2.1 _ hw.1) (ok.2.2.2.2.1 _ hw.2.1) (ok.2.2.2.2.1 _ hw.2.2.1) (ok.2.2.2.2.1 _ hw.2.2.2) ok.2.2.2.2.2.2.2.1 hP (wsp_D w σ) hS o0 o1 0 0 (c0 := w.2.1.1) (c1 := w.2.1.1) (n0 := ln o0) (n1 := ln o1) (f := σ o0) (g := σ o1) (ty := .int) ?_ ?_ rfl rfl rfl (by decide) (by decide) hnp (by rw [hnn, hz, hn0]; omega) (by rw [hnn, hz, hn1]; omega) (fun _ _ => rfl) (by rw [ok.2.2.2.2.2.2.2.2.2.1]; exact hf) (by rw [ok.2.2.2.2.2.2.2.2.2.2.1]; exact hR) hd (fun H1 locs1 hP1 _ hS1 => ?_)
  · rw [wsp_at h0]
    simp [ent, hk0]
  · rw [wsp_at h1]
    simp [ent, hk1]
  · rw [hcp, hw2] at hP1
    exact kk _ b hb hκ ok H1 locs1 ls hP1 hS1 hl'
theorem V_aald {i : Int32} (hd : decode y.2.1 pc = .ok (.aaload, 1)) (kk : VV y w g kc ks Q κ (pc + 1) vs (.ref (wB w + (63 + 9 * ix i)) :: rest) σ X) : VV y w g kc ks Q κ pc vs (.int i :: .ref (wB w + 62) :: rest) σ (if inb i 12 then X else none) := by
  intro b hb hκ ok H locs ls hP hS hl'
  by_cases hi : inb i 12 = true
  · rw [if_pos hi] at hb
    refine va_aldq ok.1 ok.2.1 ok.2.2.2.2.2.2.2.1 hP 62 3 (cA := w.2.1.2.2.2) (n := 12) (C := "SharedCup$House") (f := fun j => some (wB w + (63 + 9 * j))) ?_ rfl (inb_in hi) hd (kk b hb hκ ok H locs ls hP hS hl')
    rw [wsp_at (by decide)]
    simp [ent, show kd 62 = 16 from by decide, show ln 62 = 12 from by decide]
  · rw [if_neg hi] at hb
    cases hb
theorem V_ite {c : Prop} [Decidable c] {st : List Value} {X1 X2 : Option β} (h1 : c → VV y w g kc ks Q κ pc vs st σ X1) (h2 : ¬ c → VV y w g kc ks Q κ pc vs st σ X2) : VV y w g kc ks Q κ pc vs st σ (if c then X1 else X2) := by
  by_cases h : c
  · rw [if_pos h]; exact h1 h
  · rw [if_neg h]; exact h2 h
theorem V_tabIn {dflt lo hi : Int} {offs : Array Int} {len : Nat} {x : Int32} {off : Int} {tgt : Nat} (hd : decode y.2.1 pc = .ok (.tableswitch dflt lo hi offs, len)) (h1 : ¬ x.toInt < lo) (h2 : ¬ hi < x.toInt) (ho : offs[(x.toInt - lo).toNat]? = some off) (ht : (pc : Int) + off = (tgt : Int)) (k : VV y w g kc ks Q κ tgt vs rest σ X) : VV y w g kc ks Q κ pc vs (.int x :: rest) σ X :=
  fun b hb hk ok H locs ls hP hS hl' => lv_tableIn ok.1 ok.2.1 hd h1 h2 ho ht (k b hb hk ok H locs ls hP hS hl')
theorem V_tabOut {dflt lo hi : Int} {offs : Array Int} {len : Nat} {x : Int32} {tgt : Nat} (hd : decode y.2.1 pc = .ok (.tableswitch dflt lo hi offs, len)) (h : x.toInt < lo ∨ hi < x.toInt) (ht : (pc : Int) + dflt = (tgt : Int)) (k : VV y w g kc ks Q κ tgt vs rest σ X) : VV y w g kc ks Q κ pc vs (.int x :: rest) σ X :=
  fun b hb hk ok H locs ls hP hS hl' => lv_tableOut ok.1 ok.2.1 hd h ht (k b hb hk ok H locs ls hP hS hl')
theorem V_alen {o : Nat} {v : Int32} (hd : decode y.2.1 pc = .ok (.arraylength, 1)) (hk : kd o = 13) (hn : Int32.ofNat (ln o) = v) (kk : VV y w g kc ks Q κ (pc + 1) vs (.int v :: rest) σ X) : VV y w g kc ks Q κ pc vs (.ref (wB w + o) :: rest) σ X := by
  intro b hb hκ ok H locs ls hP hS hl'
  have ho : o < 184 := kd_lt (by omega)
  refine va_alen ok.1 ok.2.1 ok.2.2.2.2.2.2.2.1 hP o 0 (cA := w.2.1.1) (x := (ln o, .inl (σ o))) ?_ rfl hn hd (kk b hb hκ ok H locs ls hP hS hl')
  rw [wsp_at ho]
  simp [ent, hk]
abbrev wl (y : MD) : List Cond := Cond.code y.1 y.2.1 y.2.2.1 y.2.2.2.1 :: gtb
abbrev rmo (y : MD) : Room := { frames := y.2.2.2.2.1, cells := y.2.2.2.2.2.2.1, slots := y.2.2.2.2.2.2.2, locals := y.2.2.2.2.2.1 }
def Rp (w : TG) (σ : MS) (U : State) : Prop := va_P (wD w) cls5 (wsp w σ) U.heap ∧ va_K (wD w) cls5 (wT w) U ∧ wB w ≤ U.heap.size ∧ Xt w U U.heap
abbrev ans (rt : Option FieldType) (x : Int32) : Option Value := match rt with
  | none => none
  | some _ => some (.int x)
def Qm (w : TG) (rt : Option FieldType) (x : Int32 × MS) : Array Value → State → Outcome → State → Prop := fun _ st oc t => (oc = .returned (ans rt x.1) ∧ Rp w x.2 t) ∧ va_F (wA w) st t
/-- a method's contract: whatever X gives is what it answers, and the memory behind it -/
def MC (y : MD) (w : TG) (av : List Value) (σ : MS) (X : Option (Int32 × MS)) : Prop := ∀ (l : Launch) (x : Int32 × MS), l.stackTraces = false → X = some x → Met l y.1 (wl y) (rmo y) (va_Pc av (Rp w σ)) (Qm w y.2.2.2.1 x) y.2.2.2.2.2.2.1 y.2.2.2.2.2.2.2 (wA w)
abbrev QM (y : MD) (w : TG) (g : VG) (x : Int32 × MS) : State → Prop := MQ (gB g) (Qm w y.2.2.2.1 x) (gA g) (gS g) y.2.2.2.2.2.2.1 y.2.2.2.2.2.2.2 (wA w)
theorem Qm_end {H : Heap} {x : Int32 × MS} {t : State} {rt : Option FieldType} {locs : List Loc} {oc : Outcome} {a : Array Value} (ok : Okm y w g) (hP : va_P (wD w) cls5 (wsp w x.2) H) (hS : va_S (wA w) (gS g).heap H locs) (ht : t.heap = H) (hW : (gS g).WarmedH t.vm) (ho : oc = .returned (ans rt x.1)) : Qm w rt x a (gS g) oc t :=
  ⟨⟨ho, by rw [ht]; exact hP, va_K.moved hW.alike ok.2.2.2.2.2.2.2.1, by rw [ht]; exact Nat.le_trans ok.2.2.2.2.2.2.2.2.1 hS.1, by rw [ht]; exact (ok.2.2.2.2.2.2.2.2.2.2.2.2.2.1.warm hW).kept hS.2.1⟩, hS.F ht⟩
theorem V_ireti {x : Int32 × MS} {v : Int32} {b : β} (hd : decode y.2.1 pc = .ok (.ireturn, 1)) (hr : y.2.2.2.1 = some .int) (hc : kc ≤ y.2.2.2.2.2.2.1 := by exact Nat.le_of_ble_eq_true rfl) (hs : ks ≤ y.2.2.2.2.2.2.2 := by exact Nat.le_of_ble_eq_true rfl) (hk : κ b → (v, σ) = x) : VV y w g kc ks (QM y w g x) κ pc vs [.int v] σ (some b) := by
  intro b' hb hκ ok H locs ls hP hS hl'
  cases hb
  have hx := hk hκ
  subst hx
  refine W.widen hc hs ?_
  exact W.iret ok.1 ok.2.1 (ok.2.2.2.2.2.1.trans hr) (fun t ht hW => Qm_end ok hP hS ht hW (by rw [hr])) hS.2.2 hd ok.2.2.2.2.2.2.1
theorem V_iretz {x : Int32 × MS} {v : Int32} {b : β} {ty : FieldType} (hd : decode y.2.1 pc = .ok (.ireturn, 1)) (hr : y.2.2.2.1 = some ty) (hn : narrow ty (.int v) = .int v) (hc : kc ≤ y.2.2.2.2.2.2.1 := by exact Nat.le_of_ble_eq_true rfl) (hs : ks ≤ y.2.2.2.2.2.2.2 := by exact Nat.le_of_ble_eq_true rfl) (hk : κ b → (v, σ) = x) : VV y w g kc ks (QM y w g x) κ pc vs [.int v] σ (some b) := by
  intro b' hb hκ ok H locs ls hP hS hl'
  cases hb
  have hx := hk hκ
  subst hx
  refine W.widen hc hs ?_
  exact W.zret ok.1 ok.2.1 (ok.2.2.2.2.2.1.trans hr) hn (fun t ht hW => Qm_end ok hP hS ht hW (by rw [hr])) hS.2.2 hd ok.2.2.2.2.2.2.1
/-- a truth that isn't known to be 0 or 1 -/
theorem V_iretZ {x : Int32 × MS} {v : Int32} {b : β} (hd : decode y.2.1 pc = .ok (.ireturn, 1)) (hr : y.2.2.2.1 = some .boolean) (hc : kc ≤ y.2.2.2.2.2.2.1 := by exact Nat.le_of_ble_eq_true rfl) (hs : ks ≤ y.2.2.2.2.2.2.2 := by exact Nat.le_of_ble_eq_true rfl) (hk : κ b → (v, σ) = x) : VV y w g kc ks (QM y w g x) κ pc vs [.int v] σ (if v = 0 ∨ v = 1 then some b else none) := by
  intro b' hb
  by_cases h : v = 0 ∨ v = 1
  · rw [if_pos h] at hb
    exact V_iretz hd hr (by rcases h with h | h <;> rw [h] <;> rfl) hc hs hk b' hb
  · rw [if_neg h] at hb
    cases hb
theorem V_ret {x : Int32 × MS} {b : β} (hd : decode y.2.1 pc = .ok (.return_, 1)) (hr : y.2.2.2.1 = none) (hc : kc ≤ y.2.2.2.2.2.2.1 := by exact Nat.le_of_ble_eq_true rfl) (hs : ks ≤ y.2.2.2.2.2.2.2 := by exact Nat.le_of_ble_eq_true rfl) (hk : κ b → (0, σ) = x) : VV y w g kc ks (QM y w g x) κ pc vs [] σ (some b) := by
  intro b' hb hκ ok H locs ls hP hS hl'
  cases hb
  have hx := hk hκ
  subst hx
  refine W.widen hc hs ?_
  exact W.vret ok.1 ok.2.1 (ok.2.2.2.2.2.1.trans hr) (fun t ht hW => Qm_end ok hP hS ht hW (by rw [hr])) hS.2.2 hd ok.2.2.2.2.2.2.1
end VR
theorem lva_mem : ∀ (av : List Value) (k i : Nat) (v : Value), (∀ u ∈ av, u.category = 1) → av[i]? = some v → (k + i, v) ∈ lv_args k av := by
  intro av
  induction av with
  | nil => intro k i v _ h; simp at h
  | cons u r ih =>
    intro k i v hc h
    have hu : u.category = 1 := hc u List.mem_cons_self
    cases i with
    | zero =>
      simp only [List.getElem?_cons_zero] at h
      cases h
      simp [lv_args]
    | succ i =>
      simp only [List.getElem?_cons_succ] at h
      have := ih (k + 1) i v (fun z hz => hc z (List.mem_cons_of_mem _ hz)) h
      simp only [lv_args, hu]
      refine List.mem_cons_of_mem _ ?_
      rw [show k + (i + 1) = k + 1 + i by omega]
      exact this
theorem V_meth {y : MD} {w : TG} {av : List Value} {σ : MS} {X : Option (Int32 × MS)} (hy : plainName y.1.cls = true) (hn : (lg_sl av).length ≤ y.2.2.1) (hc : ∀ v ∈ av, v.category = 1) (k : ∀ (g : VG) (x : Int32 × MS), VV y w g 0 0 (QM y w g x) (fun b => b = x) 0 (av.map some ++ List.replicate (y.2.2.1 - av.length) none) [] σ X) : MC y w av σ X := by
  intro l x hl hX
  refine Met.ofW (cc := y.2.1) (maxL := y.2.2.1) (ret := y.2.2.2.1) hy rfl ?_
  intro p e s m args below meth c s₁ B hml hv
  obtain ⟨rfl, hP, hK, hB, hXt⟩ := hv
  have hts := atoms_spec (ws := wl y) B.pre
  have hle := lv_entry av (n := y.2.2.1) hn
  rw [lg_entry_eq]
  have ok : Okm y w (p, l, e, (headSpec (wl y) (rmo y)).room, s, m, av.toArray, below, meth, c) := ⟨B.exec, B.bytes, hml, findClass_of_methodNamed B.named, fun t ht => hts t (List.mem_cons_of_mem _ ht), B.returns, B.notSynchronized, hK, hB, rfl, rfl, rfl, rfl, hXt, hl⟩
  refine k (p, l, e, (headSpec (wl y) (rmo y)).room, s, m, av.toArray, below, meth, c) x x hX rfl ok s.heap [] _ hP va_S.rf ?_
  refine ⟨hle.1, hle.2.1, fun i v hi => ?_⟩
  have hi2 : av[i]? = some v := by
    by_cases h : i < av.length
    · rw [List.getElem?_append_left (by simpa using h), List.getElem?_map] at hi
      cases hav : av[i]? with
      | none => rw [hav] at hi; cases hi
      | some u => rw [hav] at hi; cases hi; rfl
    · rw [List.getElem?_append_right (by simpa using h), List.getElem?_replicate] at hi
      split at hi <;> cases hi
  exact ⟨hle.2.2 (i, v) (by simpa using lva_mem av 0 i v hc hi2), hc v (List.mem_of_getElem? hi2)⟩
/-- a call's words -/
def cwp (own : String) (index : Nat) (y2 : MD) (n2 : Nat) : Prop := GoodIn gtb (wsV own index y2.1.cls y2.1 [Cond.code y2.1 y2.2.1 y2.2.2.1 y2.2.2.2.1]) ∧ y2.1.cls ≠ "java/lang/invoke/MethodHandle" ∧ y2.1.cls ≠ "java/lang/invoke/VarHandle" ∧ (parseMethodDescriptor y2.1.desc).map (fun d => d.parameters.length) = some n2
def csp (own : String) (index : Nat) (y2 : MD) (n2 : Nat) : Prop := GoodIn gtb (va_wsS own index y2.1 [Cond.code y2.1 y2.2.1 y2.2.2.1 y2.2.2.2.1]) ∧ y2.1.cls ≠ "java/lang/invoke/MethodHandle" ∧ y2.1.cls ≠ "java/lang/invoke/VarHandle" ∧ (parseMethodDescriptor y2.1.desc).map (fun d => d.parameters.length) = some n2
theorem Rp_blind {w : TG} {σ : MS} {av : List Value} : FrameBlind (va_Pc av (Rp w σ)) := fun a U f mk q => ⟨q.1, q.2.1, va_K.moved (u := U) (U := U.calling f mk a) (Vm.Alike.refl U.vm) q.2.2.1, q.2.2.2.1, q.2.2.2.2.same (U := U.calling f mk a) rfl⟩
section VC
variable {y : MD} {w : TG} {g : VG} {kc ks : Nat} {Q : State → Prop} {β : Type} {κ : β → Prop} {pc : Nat} {vs : List (Option Value)} {rest : List Value} {σ : MS} {X : Option β}
theorem V_call {y2 : MD} {av st : List Value} {Y : Option (Int32 × MS)} {Z : Int32 × MS → Option β}
    (hM : MC y2 w av σ Y)
    (hrun : ∀ (H : Heap) (locs : List Loc) (ls : Array Slot) (Qc : Array Value → State → Outcome → State → Prop), Okm y w g → va_P (wD w) cls5 (wsp w σ) H → va_S (wA w) (gS g).heap H locs → lh ls y.2.2.1 vs → Met (gL g) y2.1 (wl y2) (rmo y2) (va_Pc av (Rp w σ)) Qc y2.2.2.2.2.2.2.1 y2.2.2.2.2.2.2.2 (wA w) → va_Run (gP g) (gL g) (gE g) (gR g) (gS g) (gM g) (gA g) (gB g) (gH g) (gC g) H locs kc ks 0 0 (F0 (gM g) pc ls st) rest (Qc av.toArray) (wA w))
    (kk : ∀ r : Int32 × MS, VV y w g kc ks Q κ (pc + 3) vs ((ans y2.2.2.2.1 r.1).toList ++ rest) r.2 (Z r)) : VV y w g kc ks Q κ pc vs st σ (Y.bind Z) := by
  intro b hb hκ ok H locs ls hP hS hl'
  obtain ⟨r, hY, hZ⟩ := Option.bind_eq_some_iff.mp hb
  have hr := hrun H locs ls (Qm w y2.2.2.2.1 r) ok hP hS hl' (hM (gL g) r ok.2.2.2.2.2.2.2.2.2.2.2.2.2.2 hY)
  intro T hT X
  obtain ⟨v, st₀, t, T', L, h0, X', hL, e1, e2, ⟨⟨hv, hR⟩, hz, hk⟩, stp⟩ := hr T hT X
  cases hv
  rw [h0] at hz hk
  have hS1 : va_S (wA w) (gS g).heap T'.heap (locs ++ L) := ⟨Nat.le_trans hS.1 (by rw [e1]; exact hz), fun q h1 h2 => by rw [e1, hk q (Nat.lt_of_lt_of_le h1 hS.1) h2]; exact hS.2.1 q h1 h2, fun q hq => by
      rcases List.mem_append.mp hq with h | h
      · exact hS.2.2 q h
      · exact hL q h⟩
  obtain ⟨t2, a1, b1⟩ := kk r b hZ hκ ok T'.heap (locs ++ L) ls (by rw [e1]; exact hR.1) hS1 hl' T' rfl X'
  exact ⟨t2, stp t2 a1, b1⟩
theorem goodIn_wl {own : String} {index : Nat} {y2 : MD} (h : GoodIn gtb (wsV own index y2.1.cls y2.1 [Cond.code y2.1 y2.2.1 y2.2.2.1 y2.2.2.2.1])) : GoodIn gtb (wsV own index y2.1.cls y2.1 (wl y2)) := by
  intro t ht
  simp only [wsV, wl] at ht h
  rcases List.mem_append.mp ht with h1 | h1
  · exact h t (List.mem_append_left _ h1)
  · rcases List.mem_cons.mp h1 with h2 | h2
    · exact h t (List.mem_append_right _ (by rw [h2]; exact List.mem_cons_self))
    · exact tbl_good t h2
theorem V_callV {y2 : MD} {own : String} {index ci o n2 : Nat} {As st : List Value} {Y : Option (Int32 × MS)} {Z : Int32 × MS → Option β}
    (hM : MC y2 w (.ref (wB w + o) :: As) σ Y) (hw : cwp own index y2 n2) (ho : y.1.cls = own) (hd : decode y.2.1 pc = .ok (.invokevirtual index, 3)) (hk : kd o = ci) (hci : (cls5[ci]?).map (fun q => q.1) = some y2.1.cls)
    (hR : y2.2.2.2.2.1 + 1 ≤ y.2.2.2.2.1 ∧ 8 + (y2.2.2.1 + 11) + y2.2.2.2.2.2.1 ≤ y.2.2.2.2.2.1) (hn : As.length = n2) (hst : st = As.reverse ++ .ref (wB w + o) :: rest) (hcat : (rest.map fun v => v.category).sum ≤ 8) (hc : kc ≤ y.2.2.2.2.2.2.1) (hs : ks ≤ y.2.2.2.2.2.2.2) (h0 : y2.2.2.2.2.2.2 = (0, 0))
    (kk : ∀ r : Int32 × MS, VV y w g kc ks Q κ (pc + 3) vs ((ans y2.2.2.2.1 r.1).toList ++ rest) r.2 (Z r)) : VV y w g kc ks Q κ pc vs st σ (Y.bind Z) := by
  subst ho
  subst hk
  subst hst
  refine V_call hM (fun H locs ls Qc ok hP hS hl' hMet => ?_) kk
  rw [h0] at hMet
  have hr0 : (rmo y2).cells = 0 ∧ (rmo y2).slots = 0 := ⟨by show y2.2.2.2.2.2.2.1 = 0; rw [h0], by show y2.2.2.2.2.2.2.2 = 0; rw [h0]⟩
  cases hq : cls5[kd o]? with
  | none => rw [hq] at hci; cases hci
  | some q =>
    rw [hq] at hci
    have hq1 : q.1 = y2.1.cls := Option.some.inj hci
    have hk12 : kd o ≤ 12 := by
      have := (List.getElem?_eq_some_iff.mp hq).1
      simp [cls5] at this
      omega
    have ho : o < 184 := kd_lt (by omega)
    have he : (wsp w σ)[o]? = some (wB w + o, .inr (kd o, fl w σ o (kd o))) := by
      rw [wsp_at ho]
      simp only [ent, if_pos hk12]
    exact va_runV (Ts := gtb) ⟨ok.1, ok.2.1, ok.2.2.1, ok.2.2.2.1, ok.2.2.2.2.1⟩ hMet (cwV n2 ok.2.2.2.2.1 (goodIn_wl hw.1) rfl hr0.1 hr0.2 ⟨rfl, hw.2.1, hw.2.2.1, hw.2.2.2⟩ ⟨by rw [ok.2.2.2.2.2.2.2.2.2.1]; exact hR.1, by rw [ok.2.2.2.2.2.2.2.2.2.2.1]; exact hR.2⟩) ⟨Rp_blind, by rw [← hq1]; exact va_recv ok.2.2.2.2.2.2.2.1 hP hq he, fun U hU hW => ⟨rfl, by rw [hU]; exact hP, va_K.moved hW.alike ok.2.2.2.2.2.2.2.1, by rw [hU]; exact Nat.le_trans ok.2.2.2.2.2.2.2.2.1 hS.1, by rw [hU]; exact (ok.2.2.2.2.2.2.2.2.2.2.2.2.2.1.warm hW).kept hS.2.1⟩⟩ rfl hn hl'.1 rfl (lv_room hcat) hd ⟨by rw [ok.2.2.2.2.2.2.2.2.2.2.2.1]; exact hc, by rw [ok.2.2.2.2.2.2.2.2.2.2.2.2.1]; exact hs⟩
theorem goodIn_wlS {own : String} {index : Nat} {y2 : MD} (h : GoodIn gtb (va_wsS own index y2.1 [Cond.code y2.1 y2.2.1 y2.2.2.1 y2.2.2.2.1])) : GoodIn gtb (wl y2) := by
  intro t ht
  rcases List.mem_cons.mp ht with h2 | h2
  · exact h t (by rw [h2]; exact List.mem_append_right _ List.mem_cons_self)
  · exact tbl_good t h2
theorem V_callS {y2 : MD} {own : String} {index n2 : Nat} {As st : List Value} {Y : Option (Int32 × MS)} {Z : Int32 × MS → Option β}
    (hM : MC y2 w As σ Y) (hw : csp own index y2 n2) (ho : y.1.cls = own) (hd : decode y.2.1 pc = .ok (.invokestatic index, 3))
    (hR : y2.2.2.2.2.1 + 1 ≤ y.2.2.2.2.1 ∧ 8 + (y2.2.2.1 + 11) + y2.2.2.2.2.2.1 ≤ y.2.2.2.2.2.1) (hn : As.length = n2) (hst : st = As.reverse ++ rest) (hcat : (rest.map fun v => v.category).sum ≤ 8) (hc : kc ≤ y.2.2.2.2.2.2.1) (hs : ks ≤ y.2.2.2.2.2.2.2) (h0 : y2.2.2.2.2.2.2 = (0, 0))
    (kk : ∀ r : Int32 × MS, VV y w g kc ks Q κ (pc + 3) vs ((ans y2.2.2.2.1 r.1).toList ++ rest) r.2 (Z r)) : VV y w g kc ks Q κ pc vs st σ (Y.bind Z) := by
  subst ho
  subst hst
  refine V_call hM (fun H locs ls Qc ok hP hS hl' hMet => ?_) kk
  rw [h0] at hMet
  have hr0 : (rmo y2).cells = 0 ∧ (rmo y2).slots = 0 := ⟨by show y2.2.2.2.2.2.2.1 = 0; rw [h0], by show y2.2.2.2.2.2.2.2 = 0; rw [h0]⟩
  have ow : ∀ t ∈ va_wsS y.1.cls index y2.1 [Cond.code y2.1 y2.2.1 y2.2.2.1 y2.2.2.2.1], t.before (gA g) (gS g) = true := fun t ht => ok.2.2.2.2.1 t (hw.1 t ht).1
  exact va_runS (Ts := gtb) ⟨ok.1, ok.2.1, ok.2.2.1, ok.2.2.2.1, ok.2.2.2.2.1⟩ hMet ⟨callB_of n2 ok.2.2.2.2.1 (goodIn_wlS hw.1) rfl hr0.1 hr0.2 (ow _ (by simp [va_wsS])) (ow _ (by simp [va_wsS])) hw.2 ⟨by rw [ok.2.2.2.2.2.2.2.2.2.1]; exact hR.1, by rw [ok.2.2.2.2.2.2.2.2.2.2.1]; exact hR.2⟩, ow _ (by simp [va_wsS])⟩ ⟨Rp_blind, fun U hU hW => ⟨rfl, by rw [hU]; exact hP, va_K.moved hW.alike ok.2.2.2.2.2.2.2.1, by rw [hU]; exact Nat.le_trans ok.2.2.2.2.2.2.2.2.1 hS.1, by rw [hU]; exact (ok.2.2.2.2.2.2.2.2.2.2.2.2.2.1.warm hW).kept hS.2.1⟩⟩ rfl hn hl'.1 rfl (lv_room hcat) hd ⟨by rw [ok.2.2.2.2.2.2.2.2.2.2.2.1]; exact hc, by rw [ok.2.2.2.2.2.2.2.2.2.2.2.2.1]; exact hs⟩
/-- callees that write nothing -/
theorem V_callVp {y2 : MD} {own : String} {index ci o n2 : Nat} {As st : List Value} {Y : Option Int32} {Z : Int32 → Option β}
    (hM : MC y2 w (.ref (wB w + o) :: As) σ (Y.map (fun r => (r, σ)))) (hw : cwp own index y2 n2) (ho : y.1.cls = own) (hd : decode y.2.1 pc = .ok (.invokevirtual index, 3)) (hk : kd o = ci) (hci : (cls5[ci]?).map (fun q => q.1) = some y2.1.cls)
    (hR : y2.2.2.2.2.1 + 1 ≤ y.2.2.2.2.1 ∧ 8 + (y2.2.2.1 + 11) + y2.2.2.2.2.2.1 ≤ y.2.2.2.2.2.1) (hn : As.length = n2) (hst : st = As.reverse ++ .ref (wB w + o) :: rest) (hcat : (rest.map fun v => v.category).sum ≤ 8) (hc : kc ≤ y.2.2.2.2.2.2.1) (hs : ks ≤ y.2.2.2.2.2.2.2) (h0 : y2.2.2.2.2.2.2 = (0, 0))
    (kk : ∀ r : Int32, VV y w g kc ks Q κ (pc + 3) vs ((ans y2.2.2.2.1 r).toList ++ rest) σ (Z r)) : VV y w g kc ks Q κ pc vs st σ (Y.bind Z) := by
  have h : Y.bind Z = (Y.map (fun r => (r, σ))).bind (fun r => @ite _ (r.2 = σ) (Classical.propDecidable _) (Z r.1) none) := by
    cases Y <;> simp
  rw [h]
  refine V_callV hM hw ho hd hk hci hR hn hst hcat hc hs h0 (fun r => ?_)
  by_cases hr : r.2 = σ
  · rw [if_pos hr, hr]
    exact kk r.1
  · rw [if_neg hr]
    exact V_none
theorem V_callSp {y2 : MD} {own : String} {index n2 : Nat} {As st : List Value} {Y : Option Int32} {Z : Int32 → Option β}
    (hM : MC y2 w As σ (Y.map (fun r => (r, σ)))) (hw : csp own index y2 n2) (ho : y.1.cls = own) (hd : decode y.2.1 pc = .ok (.invokestatic index, 3))
    (hR : y2.2.2.2.2.1 + 1 ≤ y.2.2.2.2.1 ∧ 8 + (y2.2.2.1 + 11) + y2.2.2.2.2.2.1 ≤ y.2.2.2.2.2.1) (hn : As.length = n2) (hst : st = As.reverse ++ rest) (hcat : (rest.map fun v => v.category).sum ≤ 8) (hc : kc ≤ y.2.2.2.2.2.2.1) (hs : ks ≤ y.2.2.2.2.2.2.2) (h0 : y2.2.2.2.2.2.2 = (0, 0))
    (kk : ∀ r : Int32, VV y w g kc ks Q κ (pc + 3) vs ((ans y2.2.2.2.1 r).toList ++ rest) σ (Z r)) : VV y w g kc ks Q κ pc vs st σ (Y.bind Z) := by
  have h : Y.bind Z = (Y.map (fun r => (r, σ))).bind (fun r => @ite _ (r.2 = σ) (Classical.propDecidable _) (Z r.1) none) := by
    cases Y <;> simp
  rw [h]
  refine V_callS hM hw ho hd hR hn hst hcat hc hs h0 (fun r => ?_)
  by_cases hr : r.2 = σ
  · rw [if_pos hr, hr]
    exact kk r.1
  · rw [if_neg hr]
    exact V_none
theorem V_callVi {y2 : MD} {own : String} {index n2 : Nat} {ci o : Nat} {As st : List Value} {Y : Option (Int32 × MS)} {Z : Int32 × MS → Option β} (hM : MC y2 w (.ref (wB w + o) :: As) σ Y) (hw : cwp own index y2 n2) (ho : y.1.cls = own) {ty : FieldType} (hty : y2.2.2.2.1 = some ty) (hd : decode y.2.1 pc = .ok (.invokevirtual index, 3)) (hk : kd o = ci) (hci : (cls5[ci]?).map (fun q => q.1) = some y2.1.cls) (hR : y2.2.2.2.2.1 + 1 ≤ y.2.2.2.2.1 ∧ 8 + (y2.2.2.1 + 11) + y2.2.2.2.2.2.1 ≤ y.2.2.2.2.2.1) (hn : As.length = n2) (hst : st = As.reverse ++ .ref (wB w + o) :: rest) (hcat : (rest.map fun v => v.category).sum ≤ 8) (hc : kc ≤ y.2.2.2.2.2.2.1) (hs : ks ≤ y.2.2.2.2.2.2.2) (h0 : y2.2.2.2.2.2.2 = (0, 0)) (kk : ∀ r : Int32 × MS, VV y w g kc ks Q κ (pc + 3) vs (.int r.1 :: rest) r.2 (Z r)) : VV y w g kc ks Q κ pc vs st σ (Y.bind Z) :=
  V_callV hM hw ho hd hk hci hR hn hst hcat hc hs h0 (fun r => by rw [hty]; exact kk r)
theorem V_callVv {y2 : MD} {own : String} {index n2 : Nat} {ci o : Nat} {As st : List Value} {Y : Option (Int32 × MS)} {Z : Int32 × MS → Option β} (hM : MC y2 w (.ref (wB w + o) :: As) σ Y) (hw : cwp own index y2 n2) (ho : y.1.cls = own) (hty : y2.2.2.2.1 = none) (hd : decode y.2.1 pc = .ok (.invokevirtual index, 3)) (hk : kd o = ci) (hci : (cls5[ci]?).map (fun q => q.1) = some y2.1.cls) (hR : y2.2.2.2.2.1 + 1 ≤ y.2.2.2.2.1 ∧ 8 + (y2.2.2.1 + 11) + y2.2.2.2.2.2.1 ≤ y.2.2.2.2.2.1) (hn : As.length = n2) (hst : st = As.reverse ++ .ref (wB w + o) :: rest) (hcat : (rest.map fun v => v.category).sum ≤ 8) (hc : kc ≤ y.2.2.2.2.2.2.1) (hs : ks ≤ y.2.2.2.2.2.2.2) (h0 : y2.2.2.2.2.2.2 = (0, 0)) (kk : ∀ r : Int32 × MS, VV y w g kc ks Q κ (pc + 3) vs rest r.2 (Z r)) : VV y w g kc ks Q κ pc vs st σ (Y.bind Z) :=
  V_callV hM hw ho hd hk hci hR hn hst hcat hc hs h0 (fun r => by rw [hty]; exact kk r)
theorem V_callVpi {y2 : MD} {own : String} {index n2 : Nat} {ci o : Nat} {As st : List Value} {Y : Option Int32} {Z : Int32 → Option β} (hM : MC y2 w (.ref (wB w + o) :: As) σ (Y.map (fun r => (r, σ)))) (hw : cwp own index y2 n2) (ho : y.1.cls = own) {ty : FieldType} (hty : y2.2.2.2.1 = some ty) (hd : decode y.2.1 pc = .ok (.invokevirtual index, 3)) (hk : kd o = ci) (hci : (cls5[ci]?).map (fun q => q.1) = some y2.1.cls) (hR : y2.2.2.2.2.1 + 1 ≤ y.2.2.2.2.1 ∧ 8 + (y2.2.2.1 + 11) + y2.2.2.2.2.2.1 ≤ y.2.2.2.2.2.1) (hn : As.length = n2) (hst : st = As.reverse ++ .ref (wB w + o) :: rest) (hcat : (rest.map fun v => v.category).sum ≤ 8) (hc : kc ≤ y.2.2.2.2.2.2.1) (hs : ks ≤ y.2.2.2.2.2.2.2) (h0 : y2.2.2.2.2.2.2 = (0, 0)) (kk : ∀ r : Int32, VV y w g kc ks Q κ (pc + 3) vs (.int r :: rest) σ (Z r)) : VV y w g kc ks Q κ pc vs st σ (Y.bind Z) :=
  V_callVp hM hw ho hd hk hci hR hn hst hcat hc hs h0 (fun r => by rw [hty]; exact kk r)
theorem V_callSi {y2 : MD} {own : String} {index n2 : Nat} {As st : List Value} {Y : Option (Int32 × MS)} {Z : Int32 × MS → Option β} (hM : MC y2 w (As) σ Y) (hw : csp own index y2 n2) (ho : y.1.cls = own) {ty : FieldType} (hty : y2.2.2.2.1 = some ty) (hd : decode y.2.1 pc = .ok (.invokestatic index, 3)) (hR : y2.2.2.2.2.1 + 1 ≤ y.2.2.2.2.1 ∧ 8 + (y2.2.2.1 + 11) + y2.2.2.2.2.2.1 ≤ y.2.2.2.2.2.1) (hn : As.length = n2) (hst : st = As.reverse ++ rest) (hcat : (rest.map fun v => v.category).sum ≤ 8) (hc : kc ≤ y.2.2.2.2.2.2.1) (hs : ks ≤ y.2.2.2.2.2.2.2) (h0 : y2.2.2.2.2.2.2 = (0, 0)) (kk : ∀ r : Int32 × MS, VV y w g kc ks Q κ (pc + 3) vs (.int r.1 :: rest) r.2 (Z r)) : VV y w g kc ks Q κ pc vs st σ (Y.bind Z) :=
  V_callS hM hw ho hd hR hn hst hcat hc hs h0 (fun r => by rw [hty]; exact kk r)
theorem V_callSv {y2 : MD} {own : String} {index n2 : Nat} {As st : List Value} {Y : Option (Int32 × MS)} {Z : Int32 × MS → Option β} (hM : MC y2 w (As) σ Y) (hw : csp own index y2 n2) (ho : y.1.cls = own) (hty : y2.2.2.2.1 = none) (hd : decode y.2.1 pc = .ok (.invokestatic index, 3)) (hR : y2.2.2.2.2.1 + 1 ≤ y.2.2.2.2.1 ∧ 8 + (y2.2.2.1 + 11) + y2.2.2.2.2.2.1 ≤ y.2.2.2.2.2.1) (hn : As.length = n2) (hst : st = As.reverse ++ rest) (hcat : (rest.map fun v => v.category).sum ≤ 8) (hc : kc ≤ y.2.2.2.2.2.2.1) (hs : ks ≤ y.2.2.2.2.2.2.2) (h0 : y2.2.2.2.2.2.2 = (0, 0)) (kk : ∀ r : Int32 × MS, VV y w g kc ks Q κ (pc + 3) vs rest r.2 (Z r)) : VV y w g kc ks Q κ pc vs st σ (Y.bind Z) :=
  V_callS hM hw ho hd hR hn hst hcat hc hs h0 (fun r => by rw [hty]; exact kk r)
theorem V_callSpi {y2 : MD} {own : String} {index n2 : Nat} {As st : List Value} {Y : Option Int32} {Z : Int32 → Option β} (hM : MC y2 w (As) σ (Y.map (fun r => (r, σ)))) (hw : csp own index y2 n2) (ho : y.1.cls = own) {ty : FieldType} (hty : y2.2.2.2.1 = some ty) (hd : decode y.2.1 pc = .ok (.invokestatic index, 3)) (hR : y2.2.2.2.2.1 + 1 ≤ y.2.2.2.2.1 ∧ 8 + (y2.2.2.1 + 11) + y2.2.2.2.2.2.1 ≤ y.2.2.2.2.2.1) (hn : As.length = n2) (hst : st = As.reverse ++ rest) (hcat : (rest.map fun v => v.category).sum ≤ 8) (hc : kc ≤ y.2.2.2.2.2.2.1) (hs : ks ≤ y.2.2.2.2.2.2.2) (h0 : y2.2.2.2.2.2.2 = (0, 0)) (kk : ∀ r : Int32, VV y w g kc ks Q κ (pc + 3) vs (.int r :: rest) σ (Z r)) : VV y w g kc ks Q κ pc vs st σ (Y.bind Z) :=
  V_callSp hM hw ho hd hR hn hst hcat hc hs h0 (fun r => by rw [hty]; exact kk r)
/-- strings -/
theorem V_ldcS {own tx : String} {index i : Nat} (hd : decode y.2.1 pc = .ok (.ldc index, 2)) (ho : y.1.cls = own) (hm : (own, index, tx, i) ∈ strT) (k : VV y w g kc ks Q κ (pc + 2) vs (.ref (wS w i) :: rest) σ X) : VV y w g kc ks Q κ pc vs rest σ X := by
  subst ho
  exact fun b hb hk ok H locs ls hP hS hl' => va_ldcS ok.1 ok.2.1 ok.2.2.2.1 (ok.2.2.2.2.2.2.2.2.2.2.2.2.2.1.2.1 _ hm) hd (k b hb hk ok H locs ls hP hS hl')
theorem V_sval {own : String} {index i : Nat} (hd : decode y.2.1 pc = .ok (.getfield index, 3)) (ho : y.1.cls = own) (hi : i < 33) (hw : Cond.fieldLink own index "java/lang/String" "value" "[B" ∈ gtb) (k : VV y w g kc ks Q κ (pc + 3) vs (.ref (wV w i) :: rest) σ X) : VV y w g kc ks Q κ pc vs (.ref (wS w i) :: rest) σ X := by
  subst ho
  exact fun b hb hk ok H locs ls hP hS hl' => vk_getf ok.1 ok.2.1 (ok.2.2.2.2.2.2.2.2.2.2.2.2.2.1.1 i hi).2.2.1 hS ok.2.2.2.1 (ok.2.2.2.2.1 _ hw) (fun _ h => h) hd (k b hb hk ok H locs ls hP hS hl')
theorem V_scod {own : String} {index i : Nat} (hd : decode y.2.1 pc = .ok (.getfield index, 3)) (ho : y.1.cls = own) (hi : i < 33) (hw : Cond.fieldLink own index "java/lang/String" "coder" "B" ∈ gtb) (k : VV y w g kc ks Q κ (pc + 3) vs (.int 0 :: rest) σ X) : VV y w g kc ks Q κ pc vs (.ref (wS w i) :: rest) σ X := by
  subst ho
  exact fun b hb hk ok H locs ls hP hS hl' => vk_getf ok.1 ok.2.1 (ok.2.2.2.2.2.2.2.2.2.2.2.2.2.1.1 i hi).2.1 hS ok.2.2.2.1 (ok.2.2.2.2.1 _ hw) (fun _ h => h) hd (k b hb hk ok H locs ls hP hS hl')
theorem V_compact {own : String} {index : Nat} (hd : decode y.2.1 pc = .ok (.getstatic index, 3)) (ho : y.1.cls = own) (hw : Cond.fieldLink own index "java/lang/String" "COMPACT_STRINGS" "Z" ∈ gtb) (k : VV y w g kc ks Q κ (pc + 3) vs (.int 1 :: rest) σ X) : VV y w g kc ks Q κ pc vs rest σ X := by
  subst ho
  exact fun b hb hk ok H locs ls hP hS hl' => va_gets ok.1 ok.2.1 ok.2.2.2.2.2.2.2.2.2.2.2.2.2.1.2.2.1 hS ok.2.2.2.1 (ok.2.2.2.2.1 _ hw) (fun _ h => h) hd (k b hb hk ok H locs ls hP hS hl')
theorem V_formatter {own : String} {index : Nat} (hd : decode y.2.1 pc = .ok (.getstatic index, 3)) (ho : y.1.cls = own) (hw : Cond.fieldLink own index "jdk/internal/util/Preconditions" "SIOOBE_FORMATTER" "Ljava/util/function/BiFunction;" ∈ gtb) (k : ∀ r : Option Nat, VV y w g kc ks Q κ (pc + 3) vs (va_rf r :: rest) σ X) : VV y w g kc ks Q κ pc vs rest σ X := by
  subst ho
  intro b hb hk ok H locs ls hP hS hl'
  rcases ok.2.2.2.2.2.2.2.2.2.2.2.2.2.1.2.2.2.2.2.2.1 with h | ⟨t, h⟩
  · exact va_gets ok.1 ok.2.1 h hS ok.2.2.2.1 (ok.2.2.2.2.1 _ hw) (fun _ h => h) hd (k none b hb hk ok H locs ls hP hS hl')
  · exact va_gets ok.1 ok.2.1 h hS ok.2.2.2.1 (ok.2.2.2.2.1 _ hw) (fun _ h => h) hd (k (some t) b hb hk ok H locs ls hP hS hl')
theorem V_slen {i : Nat} {v : Int32} (hd : decode y.2.1 pc = .ok (.arraylength, 1)) (hi : i < 33) (hv : Int32.ofNat (stL.getD i 0) = v) (k : VV y w g kc ks Q κ (pc + 1) vs (.int v :: rest) σ X) : VV y w g kc ks Q κ pc vs (.ref (wV w i) :: rest) σ X :=
  fun b hb hk ok H locs ls hP hS hl' => va_tlen ok.1 ok.2.1 (ok.2.2.2.2.2.2.2.2.2.2.2.2.2.1.1 i hi).2.2.2 hS hv hd (k b hb hk ok H locs ls hP hS hl')
theorem V_sbyte {i : Nat} {j : Int32} (hd : decode y.2.1 pc = .ok (.baload, 1)) (hi : i < 33) (hj : inb j (stL.getD i 0) = true) (k : VV y w g kc ks Q κ (pc + 1) vs (.int ((stB.getD i []).getD (ix j) 0) :: rest) σ X) : VV y w g kc ks Q κ pc vs (.int j :: .ref (wV w i) :: rest) σ X :=
  fun b hb hk ok H locs ls hP hS hl' => va_tb ok.1 ok.2.1 (ok.2.2.2.2.2.2.2.2.2.2.2.2.2.1.1 i hi).2.2.2 hS (inb_in hj) rfl hd (k b hb hk ok H locs ls hP hS hl')
/-- a call on a string -/
theorem V_callT {y2 : MD} {own : String} {index i n2 : Nat} {As st : List Value} {Y : Option Int32} {Z : Int32 → Option β} {ty : FieldType} (hi : i < 33) (hC : y2.1.cls = "java/lang/String")
    (hM : MC y2 w (.ref (wS w i) :: As) σ (Y.map (fun r => (r, σ)))) (hw : cwp own index y2 n2) (ho : y.1.cls = own) (hty : y2.2.2.2.1 = some ty) (hd : decode y.2.1 pc = .ok (.invokevirtual index, 3))
    (hR : y2.2.2.2.2.1 + 1 ≤ y.2.2.2.2.1 ∧ 8 + (y2.2.2.1 + 11) + y2.2.2.2.2.2.1 ≤ y.2.2.2.2.2.1) (hn : As.length = n2) (hst : st = As.reverse ++ .ref (wS w i) :: rest) (hcat : (rest.map fun v => v.category).sum ≤ 8) (hc : kc ≤ y.2.2.2.2.2.2.1) (hs : ks ≤ y.2.2.2.2.2.2.2) (h0 : y2.2.2.2.2.2.2 = (0, 0))
    (kk : ∀ r : Int32, VV y w g kc ks Q κ (pc + 3) vs (.int r :: rest) σ (Z r)) : VV y w g kc ks Q κ pc vs st σ (Y.bind Z) := by
  have h : Y.bind Z = (Y.map (fun r => (r, σ))).bind (fun r => @ite _ (r.2 = σ) (Classical.propDecidable _) (Z r.1) none) := by
    cases Y <;> simp
  rw [h]
  subst ho
  subst hst
  refine V_call (rest := rest) hM (fun H locs ls Qc ok hP hS hl' hMet => ?_) (fun r => ?_)
  · rw [h0] at hMet
    have hr0 : (rmo y2).cells = 0 ∧ (rmo y2).slots = 0 := ⟨by show y2.2.2.2.2.2.2.1 = 0; rw [h0], by show y2.2.2.2.2.2.2.2 = 0; rw [h0]⟩
    have hrec : ∃ cell : Cell, H[wS w i]? = some cell ∧ cell.vm.isStatics = false ∧ (gS g).vm.findClass "java/lang/String" = some cell.cls := by
      obtain ⟨cell, h1, h2, h3, -⟩ := (ok.2.2.2.2.2.2.2.2.2.2.2.2.2.1.1 i hi).1.kept hS.2.1
      exact ⟨cell, h1, h2, h3⟩
    exact va_runV (Ts := gtb) ⟨ok.1, ok.2.1, ok.2.2.1, ok.2.2.2.1, ok.2.2.2.2.1⟩ hMet (cwV n2 ok.2.2.2.2.1 (goodIn_wl hw.1) rfl hr0.1 hr0.2 ⟨rfl, hw.2.1, hw.2.2.1, hw.2.2.2⟩ ⟨by rw [ok.2.2.2.2.2.2.2.2.2.1]; exact hR.1, by rw [ok.2.2.2.2.2.2.2.2.2.2.1]; exact hR.2⟩) ⟨Rp_blind, by rw [hC]; exact hrec, fun U hU hW => ⟨rfl, by rw [hU]; exact hP, va_K.moved hW.alike ok.2.2.2.2.2.2.2.1, by rw [hU]; exact Nat.le_trans ok.2.2.2.2.2.2.2.2.1 hS.1, by rw [hU]; exact (ok.2.2.2.2.2.2.2.2.2.2.2.2.2.1.warm hW).kept hS.2.1⟩⟩ rfl hn hl'.1 rfl (lv_room hcat) hd ⟨by rw [ok.2.2.2.2.2.2.2.2.2.2.2.1]; exact hc, by rw [ok.2.2.2.2.2.2.2.2.2.2.2.2.1]; exact hs⟩
  · by_cases hr : r.2 = σ
    · rw [if_pos hr, hr, hty]
      exact kk r.1
    · rw [if_neg hr]
      exact V_none
theorem V_exit {α : Type} {st : List Value} {κ' : α ⊕ β → Prop} (h : ∀ b, κ' (.inr b) → κ b) (k : VV y w g kc ks Q κ pc vs st σ X) : VV y w g kc ks Q κ' pc vs st σ (X.map Sum.inr) := by
  intro b hb hk
  obtain ⟨x, hx, rfl⟩ := Option.map_eq_some_iff.mp hb
  exact k x hx (h x hk)
theorem V_itr {α : Type} {F : α → Option (α ⊕ β)} {vf : α → List (Option Value)} {sf : α → MS} (body : ∀ κ' : α ⊕ β → Prop, (∀ a', κ' (.inl a') → VH y w g kc ks Q pc (vf a') [] (sf a')) → (∀ b, κ' (.inr b) → κ b) → ∀ a, VV y w g kc ks Q κ' pc (vf a) [] (sf a) (F a)) (n : Nat) (a : α) : VV y w g kc ks Q κ pc (vf a) [] (sf a) (itr F n a) :=
  V_loop (fun a => body _ (fun _ h => h) (fun _ h => h) a) n a
theorem V_mmax {own : String} {index : Nat} {a c : Int32} (hd : decode y.2.1 pc = .ok (.invokestatic index, 3)) (ho : y.1.cls = own) (hw : Cond.methodLink own index Lib.Math.max.name ∈ gtb ∧ Cond.static Lib.Math.max.name ∈ gtb ∧ Cond.initialized "java/lang/Math" ∈ gtb ∧ Cond.code Lib.Math.max.name Lib.Math.max.code 2 (some .int) ∈ gtb) (hf : 1 ≤ y.2.2.2.2.1) (hR : (rest.map fun v => v.category).sum + 13 ≤ y.2.2.2.2.2.1) (hc : kc ≤ y.2.2.2.2.2.2.1) (hs : ks ≤ y.2.2.2.2.2.2.2)
    (k : VV y w g kc ks Q κ (pc + 3) vs (.int (mxI a c) :: rest) σ X) : VV y w g kc ks Q κ pc vs (.int c :: .int a :: rest) σ X := by
  subst ho
  exact fun b hb hk ok H locs ls hP hS hl' => va_mmax ok.1 ok.2.1 (ok.2.2.1.trans hl'.1.symm) ok.2.2.2.1 (ok.2.2.2.2.1 _ hw.1) (ok.2.2.2.2.1 _ hw.2.1) (ok.2.2.2.2.1 _ hw.2.2.1) (ok.2.2.2.2.1 _ hw.2.2.2) (by rw [ok.2.2.2.2.2.2.2.2.2.1]; exact hf) (by rw [ok.2.2.2.2.2.2.2.2.2.2.1]; exact hR) (by rw [ok.2.2.2.2.2.2.2.2.2.2.2.1]; exact hc) (by rw [ok.2.2.2.2.2.2.2.2.2.2.2.2.1]; exact hs) hd (k b hb hk ok H locs ls hP hS hl')
theorem V_mmin {own : String} {index : Nat} {a c : Int32} (hd : decode y.2.1 pc = .ok (.invokestatic index, 3)) (ho : y.1.cls = own) (hw : Cond.methodLink own index Lib.Math.min.name ∈ gtb ∧ Cond.static Lib.Math.min.name ∈ gtb ∧ Cond.initialized "java/lang/Math" ∈ gtb ∧ Cond.code Lib.Math.min.name Lib.Math.min.code 2 (some .int) ∈ gtb) (hf : 1 ≤ y.2.2.2.2.1) (hR : (rest.map fun v => v.category).sum + 13 ≤ y.2.2.2.2.2.1) (hc : kc ≤ y.2.2.2.2.2.2.1) (hs : ks ≤ y.2.2.2.2.2.2.2)
    (k : VV y w g kc ks Q κ (pc + 3) vs (.int (mnI a c) :: rest) σ X) : VV y w g kc ks Q κ pc vs (.int c :: .int a :: rest) σ X := by
  subst ho
  exact fun b hb hk ok H locs ls hP hS hl' => va_mmin ok.1 ok.2.1 (ok.2.2.1.trans hl'.1.symm) ok.2.2.2.1 (ok.2.2.2.2.1 _ hw.1) (ok.2.2.2.2.1 _ hw.2.1) (ok.2.2.2.2.1 _ hw.2.2.1) (ok.2.2.2.2.1 _ hw.2.2.2) (by rw [ok.2.2.2.2.2.2.2.2.2.1]; exact hf) (by rw [ok.2.2.2.2.2.2.2.2.2.2.1]; exact hR) (by rw [ok.2.2.2.2.2.2.2.2.2.2.2.1]; exact hc) (by rw [ok.2.2.2.2.2.2.2.2.2.2.2.2.1]; exact hs) hd (k b hb hk ok H locs ls hP hS hl')
end VC
theorem V_methp {y : MD} {w : TG} {av : List Value} {σ : MS} {Y : Option Int32} (hy : plainName y.1.cls = true) (hn : (lg_sl av).length ≤ y.2.2.1) (hc : ∀ v ∈ av, v.category = 1) (k : ∀ (g : VG) (x : Int32 × MS), VV y w g 0 0 (QM y w g x) (fun b : Int32 => (b, σ) = x) 0 (av.map some ++ List.replicate (y.2.2.1 - av.length) none) [] σ Y) : MC y w av σ (Y.map (fun r => (r, σ))) := by
  refine V_meth hy hn hc (fun g x b hb hk ok => ?_)
  obtain ⟨r, hr, rfl⟩ := Option.map_eq_some_iff.mp hb
  exact k g x r hr hk ok
theorem kd_lt4 {h : Nat} (hh : kd h = 4) : h < 184 := kd_lt (by omega)
theorem kd_lt6 {h : Nat} (hh : kd h = 6) : h < 184 := kd_lt (by omega)
theorem hA1 {h : Nat} (hh : kd h = 4) : kd (h + 1) = 13 ∧ ln (h + 1) = 8 := (by decide +kernel : ∀ h, h < 184 → kd h = 4 → kd (h + 1) = 13 ∧ ln (h + 1) = 8) h (kd_lt4 hh) hh
theorem hA2 {h : Nat} (hh : kd h = 4) : kd (h + 2) = 13 ∧ ln (h + 2) = 8 := (by decide +kernel : ∀ h, h < 184 → kd h = 4 → kd (h + 2) = 13 ∧ ln (h + 2) = 8) h (kd_lt4 hh) hh
theorem hA3 {h : Nat} (hh : kd h = 4) : kd (h + 3) = 13 ∧ ln (h + 3) = 8 := (by decide +kernel : ∀ h, h < 184 → kd h = 4 → kd (h + 3) = 13 ∧ ln (h + 3) = 8) h (kd_lt4 hh) hh
theorem hA4 {h : Nat} (hh : kd h = 4) : kd (h + 4) = 13 ∧ ln (h + 4) = 8 := (by decide +kernel : ∀ h, h < 184 → kd h = 4 → kd (h + 4) = 13 ∧ ln (h + 4) = 8) h (kd_lt4 hh) hh
theorem hA5 {h : Nat} (hh : kd h = 4) : kd (h + 5) = 13 ∧ ln (h + 5) = 64 := (by decide +kernel : ∀ h, h < 184 → kd h = 4 → kd (h + 5) = 13 ∧ ln (h + 5) = 64) h (kd_lt4 hh) hh
theorem hA6 {h : Nat} (hh : kd h = 4) : kd (h + 6) = 13 ∧ ln (h + 6) = 64 := (by decide +kernel : ∀ h, h < 184 → kd h = 4 → kd (h + 6) = 13 ∧ ln (h + 6) = 64) h (kd_lt4 hh) hh
theorem hA7 {h : Nat} (hh : kd h = 4) : kd (h + 7) = 13 ∧ ln (h + 7) = 64 := (by decide +kernel : ∀ h, h < 184 → kd h = 4 → kd (h + 7) = 13 ∧ ln (h + 7) = 64) h (kd_lt4 hh) hh
theorem hA8 {h : Nat} (hh : kd h = 4) : kd (h + 8) = 13 ∧ ln (h + 8) = 60 := (by decide +kernel : ∀ h, h < 184 → kd h = 4 → kd (h + 8) = 13 ∧ ln (h + 8) = 60) h (kd_lt4 hh) hh
theorem lA1 {h : Nat} (hh : kd h = 6) : kd (h + 1) = 13 ∧ ln (h + 1) = 12 := (by decide +kernel : ∀ h, h < 184 → kd h = 6 → kd (h + 1) = 13 ∧ ln (h + 1) = 12) h (kd_lt6 hh) hh
theorem lA2 {h : Nat} (hh : kd h = 6) : kd (h + 2) = 13 ∧ ln (h + 2) = 12 := (by decide +kernel : ∀ h, h < 184 → kd h = 6 → kd (h + 2) = 13 ∧ ln (h + 2) = 12) h (kd_lt6 hh) hh
theorem lA3 {h : Nat} (hh : kd h = 6) : kd (h + 3) = 13 ∧ ln (h + 3) = 12 := (by decide +kernel : ∀ h, h < 184 → kd h = 6 → kd (h + 3) = 13 ∧ ln (h + 3) = 12) h (kd_lt6 hh) hh
theorem lA4 {h : Nat} (hh : kd h = 6) : kd (h + 4) = 13 ∧ ln (h + 4) = 400 := (by decide +kernel : ∀ h, h < 184 → kd h = 6 → kd (h + 4) = 13 ∧ ln (h + 4) = 400) h (kd_lt6 hh) hh
theorem lA5 {h : Nat} (hh : kd h = 6) : kd (h + 5) = 13 ∧ ln (h + 5) = 8 := (by decide +kernel : ∀ h, h < 184 → kd h = 6 → kd (h + 5) = 13 ∧ ln (h + 5) = 8) h (kd_lt6 hh) hh
theorem lA6 {h : Nat} (hh : kd h = 6) : kd (h + 6) = 13 ∧ ln (h + 6) = 32 := (by decide +kernel : ∀ h, h < 184 → kd h = 6 → kd (h + 6) = 13 ∧ ln (h + 6) = 32) h (kd_lt6 hh) hh
