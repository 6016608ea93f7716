/-! layer 1: SharedCup's constructor -/
abbrev rg (w : TG) (n m : Nat) : List va_E := (List.range m).map (fun i => ent w s0 (n + i))
abbrev stg (w : TG) (e : va_E) (k : Nat) : List va_E := e :: (List.range k).map (fun i => ent w s0 (i + 1))
theorem stg_len {w : TG} {e : va_E} {k : Nat} : (stg w e k).length = k + 1 := by simp
theorem rg_len {w : TG} {n m : Nat} : (rg w n m).length = m := by simp
theorem stg_rg {w : TG} {e : va_E} {k m : Nat} : stg w e k ++ rg w (k + 1) m = stg w e (k + m) := by
  show e :: ((List.range k).map (fun i => ent w s0 (i + 1)) ++ (List.range m).map (fun i => ent w s0 (k + 1 + i))) = e :: (List.range (k + m)).map (fun i => ent w s0 (i + 1))
  rw [List.range_add, List.map_append, List.map_map]
  congr 2
  apply List.map_congr_left
  intro i _
  show ent w s0 (k + 1 + i) = ent w s0 (k + i + 1)
  congr 1
  omega
theorem rg_rg {w : TG} {n m m' : Nat} : rg w n m ++ rg w (n + m) m' = rg w n (m + m') := by
  show (List.range m).map (fun i => ent w s0 (n + i)) ++ (List.range m').map (fun i => ent w s0 (n + m + i)) = (List.range (m + m')).map (fun i => ent w s0 (n + i))
  rw [List.range_add, List.map_append, List.map_map]
  congr 1
  apply List.map_congr_left
  intro i _
  show ent w s0 (n + m + i) = ent w s0 (n + (m + i))
  congr 1
  omega
def pf (w : TG) (j i : Nat) : Option Nat := if j ≤ i ∧ i < 12 then none else some (wB w + (63 + 9 * i))
abbrev PE (w : TG) (j : Nat) : va_E := .inl (w.2.1.2.2.2, 12, .inr (.inr (.inr (.inr (pf w j)))))
theorem pf_up {w : TG} {j : Nat} (h : j < 12) : va_up (pf w j) j (some (wB w + (63 + 9 * j))) = pf w (j + 1) := by
  funext i
  unfold va_up pf
  by_cases c : i = j
  · subst c
    rw [if_pos rfl, if_neg (by omega)]
  · rw [if_neg c]
    by_cases d : j ≤ i ∧ i < 12
    · rw [if_pos d, if_pos (by omega)]
    · rw [if_neg d, if_neg (by omega)]
theorem PE_12 {w : TG} : PE w 12 = ent w s0 62 := by
  have e : pf w 12 = fun j => some (wB w + (63 + 9 * j)) := by
    funext i
    unfold pf
    rw [if_neg (by omega)]
  unfold PE
  rw [e]
  rfl
section KN
variable {y : MD} {w : TG} {g : VG} {kc ks : Nat} {Q : State → Prop} {pc : Nat} {vs : List (Option Value)} {rest : List Value} {es : List va_E}
theorem C_newq {own C : String} {T : u_T} {N ci index q : Nat} {fs : List Value} (hq : es.length = q) (hcl5 : cls5[ci]? = some (C, T, N)) (hin : ∀ t ∈ u_ws C T N, t ∈ gtb) (ty : Nat → FieldType) (hty : ∀ k, k < N → parseFieldDescriptor (T k).2.2.1 = some (ty k)) (ho : y.1.cls = own) (hw1 : Cond.classLink own index C ∈ gtb) (hw2 : Cond.instantiable C N ∈ gtb) (hw3 : Cond.initialized C ∈ gtb) (hfs : ∀ j, j < N → defaultValue (ty j) = vp_V fs j) (hd : decode y.2.1 pc = .ok (.new index, 3)) (hc : kc + 1 ≤ y.2.2.2.2.2.2.1) (hs : ks + N ≤ y.2.2.2.2.2.2.2)
    (k : VC y w g (kc + 1) (ks + N) Q (pc + 3) vs (.ref (wB w + q) :: rest) (es ++ [.inr (ci, fs)])) : VC y w g kc ks Q pc vs rest es := by
  subst hq
  exact C_new hcl5 hin ty hty ho hw1 hw2 hw3 hfs hd hc hs k
theorem C_anewq {own : String} {index N q : Nat} {n : Int32} {f : Nat → Option Nat} (hq : es.length = q) (hO : va_AO "SharedCup$House" (gS g)) (ho : y.1.cls = own) (hcl : Cond.classLink own index "SharedCup$House" ∈ gtb) (hn : ¬ n < 0) (hN : n.toNatClampNeg = N) (hN2 : N ≤ 100000) (hc : kc + 1 ≤ y.2.2.2.2.2.2.1) (hs : ks + N ≤ y.2.2.2.2.2.2.2) (hf : ∀ j, j < N → f j = none) (hd : decode y.2.1 pc = .ok (.anewarray index, 3))
    (k : VC y w g (kc + 1) (ks + N) Q (pc + 3) vs (.ref (wB w + q) :: rest) (es ++ [.inl (w.2.1.2.2.2, N, .inr (.inr (.inr (.inr f))))])) : VC y w g kc ks Q pc vs (.int n :: rest) es := by
  subst hq
  exact C_anew hO ho hcl hn hN hN2 hc hs hf hd k
end KN
theorem XNf {U : State} : XN false U := fun h => by cases h
theorem nw2_9 : Cond.instantiable RX9 5 ∈ gtb ∧ Cond.initialized RX9 ∈ gtb := ⟨gm (by decide +kernel) (by decide +kernel), gm (by decide +kernel) (by decide +kernel)⟩
theorem nwd_9 : ∀ j, j < 5 → defaultValue (tyX9 j) = vp_V [.null, .int 0, .int 0, .int 0, .int 0] j := by
  intro j hj
  match j, hj with
  | 0, _ => rfl
  | 1, _ => rfl
  | 2, _ => rfl
  | 3, _ => rfl
  | 4, _ => rfl
  | j + 5, h => exact absurd h (by omega)
theorem nw2_4 : Cond.instantiable RX4 16 ∈ gtb ∧ Cond.initialized RX4 ∈ gtb := ⟨gm (by decide +kernel) (by decide +kernel), gm (by decide +kernel) (by decide +kernel)⟩
theorem nwd_4 : ∀ j, j < 16 → defaultValue (tyX4 j) = vp_V [.int 0, .int 0, .int 0, .int 0, .int 0, .int 0, .int 0, .int 0, .null, .null, .null, .null, .null, .null, .null, .null] j := by
  intro j hj
  match j, hj with
  | 0, _ => rfl
  | 1, _ => rfl
  | 2, _ => rfl
  | 3, _ => rfl
  | 4, _ => rfl
  | 5, _ => rfl
  | 6, _ => rfl
  | 7, _ => rfl
  | 8, _ => rfl
  | 9, _ => rfl
  | 10, _ => rfl
  | 11, _ => rfl
  | 12, _ => rfl
  | 13, _ => rfl
  | 14, _ => rfl
  | 15, _ => rfl
  | j + 16, h => exact absurd h (by omega)
theorem nw2_6 : Cond.instantiable RX6 8 ∈ gtb ∧ Cond.initialized RX6 ∈ gtb := ⟨gm (by decide +kernel) (by decide +kernel), gm (by decide +kernel) (by decide +kernel)⟩
theorem nwd_6 : ∀ j, j < 8 → defaultValue (tyX6 j) = vp_V [.int 0, .int 0, .null, .null, .null, .null, .null, .null] j := by
  intro j hj
  match j, hj with
  | 0, _ => rfl
  | 1, _ => rfl
  | 2, _ => rfl
  | 3, _ => rfl
  | 4, _ => rfl
  | 5, _ => rfl
  | 6, _ => rfl
  | 7, _ => rfl
  | j + 8, h => exact absurd h (by omega)
theorem nw2_5 : Cond.instantiable RX5 1 ∈ gtb ∧ Cond.initialized RX5 ∈ gtb := ⟨gm (by decide +kernel) (by decide +kernel), gm (by decide +kernel) (by decide +kernel)⟩
theorem nwd_5 : ∀ j, j < 1 → defaultValue (tyX5 j) = vp_V [.null] j := by
  intro j hj
  match j, hj with
  | 0, _ => rfl
  | j + 1, h => exact absurd h (by omega)
theorem nw2_7 : Cond.instantiable RX7 1 ∈ gtb ∧ Cond.initialized RX7 ∈ gtb := ⟨gm (by decide +kernel) (by decide +kernel), gm (by decide +kernel) (by decide +kernel)⟩
theorem nwd_7 : ∀ j, j < 1 → defaultValue (tyX7 j) = vp_V [.null] j := by
  intro j hj
  match j, hj with
  | 0, _ => rfl
  | j + 1, h => exact absurd h (by omega)
theorem nw2_1 : Cond.instantiable RX1 3 ∈ gtb ∧ Cond.initialized RX1 ∈ gtb := ⟨gm (by decide +kernel) (by decide +kernel), gm (by decide +kernel) (by decide +kernel)⟩
theorem nwd_1 : ∀ j, j < 3 → defaultValue (tyX1 j) = vp_V [.null, .null, .null] j := by
  intro j hj
  match j, hj with
  | 0, _ => rfl
  | 1, _ => rfl
  | 2, _ => rfl
  | j + 3, h => exact absurd h (by omega)
theorem nw2_10 : Cond.instantiable RX10 1 ∈ gtb ∧ Cond.initialized RX10 ∈ gtb := ⟨gm (by decide +kernel) (by decide +kernel), gm (by decide +kernel) (by decide +kernel)⟩
theorem nwd_10 : ∀ j, j < 1 → defaultValue (tyX10 j) = vp_V [.null] j := by
  intro j hj
  match j, hj with
  | 0, _ => rfl
  | j + 1, h => exact absurd h (by omega)
theorem nw2_8 : Cond.instantiable RX8 4 ∈ gtb ∧ Cond.initialized RX8 ∈ gtb := ⟨gm (by decide +kernel) (by decide +kernel), gm (by decide +kernel) (by decide +kernel)⟩
theorem nwd_8 : ∀ j, j < 4 → defaultValue (tyX8 j) = vp_V [.null, .null, .null, .int 0] j := by
  intro j hj
  match j, hj with
  | 0, _ => rfl
  | 1, _ => rfl
  | 2, _ => rfl
  | 3, _ => rfl
  | j + 4, h => exact absurd h (by omega)
theorem nw2_3 : Cond.instantiable RX3 1 ∈ gtb ∧ Cond.initialized RX3 ∈ gtb := ⟨gm (by decide +kernel) (by decide +kernel), gm (by decide +kernel) (by decide +kernel)⟩
theorem nwd_3 : ∀ j, j < 1 → defaultValue (tyX3 j) = vp_V [.null] j := by
  intro j hj
  match j, hj with
  | 0, _ => rfl
  | j + 1, h => exact absurd h (by omega)
theorem nw2_2 : Cond.instantiable RX2 5 ∈ gtb ∧ Cond.initialized RX2 ∈ gtb := ⟨gm (by decide +kernel) (by decide +kernel), gm (by decide +kernel) (by decide +kernel)⟩
theorem nwd_2 : ∀ j, j < 5 → defaultValue (tyX2 j) = vp_V [.null, .null, .null, .int 0, .int 0] j := by
  intro j hj
  match j, hj with
  | 0, _ => rfl
  | 1, _ => rfl
  | 2, _ => rfl
  | 3, _ => rfl
  | 4, _ => rfl
  | j + 5, h => exact absurd h (by omega)
theorem nw2_11 : Cond.instantiable RX11 19 ∈ gtb ∧ Cond.initialized RX11 ∈ gtb := ⟨gm (by decide +kernel) (by decide +kernel), gm (by decide +kernel) (by decide +kernel)⟩
theorem nwd_11 : ∀ j, j < 19 → defaultValue (tyX11 j) = vp_V [.null, .null, .null, .null, .null, .null, .null, .null, .null, .null, .null, .null, .null, .null, .null, .int 0, .int 0, .int 0, .int 0] j := by
  intro j hj
  match j, hj with
  | 0, _ => rfl
  | 1, _ => rfl
  | 2, _ => rfl
  | 3, _ => rfl
  | 4, _ => rfl
  | 5, _ => rfl
  | 6, _ => rfl
  | 7, _ => rfl
  | 8, _ => rfl
  | 9, _ => rfl
  | 10, _ => rfl
  | 11, _ => rfl
  | 12, _ => rfl
  | 13, _ => rfl
  | 14, _ => rfl
  | 15, _ => rfl
  | 16, _ => rfl
  | 17, _ => rfl
  | 18, _ => rfl
  | j + 19, h => exact absurd h (by omega)
theorem nw2_12 : Cond.instantiable RX12 25 ∈ gtb ∧ Cond.initialized RX12 ∈ gtb := ⟨gm (by decide +kernel) (by decide +kernel), gm (by decide +kernel) (by decide +kernel)⟩
theorem nwd_12 : ∀ j, j < 25 → defaultValue (tyX12 j) = vp_V [.int 0, .null, .null, .null, .null, .null, .int 0, .int 0, .null, .int 0, .int 0, .int 0, .int 0, .int 0, .int 0, .null, .int 0, .null, .int 0, .int 0, .int 0, .int 0, .null, .null, .null] j := by
  intro j hj
  match j, hj with
  | 0, _ => rfl
  | 1, _ => rfl
  | 2, _ => rfl
  | 3, _ => rfl
  | 4, _ => rfl
  | 5, _ => rfl
  | 6, _ => rfl
  | 7, _ => rfl
  | 8, _ => rfl
  | 9, _ => rfl
  | 10, _ => rfl
  | 11, _ => rfl
  | 12, _ => rfl
  | 13, _ => rfl
  | 14, _ => rfl
  | 15, _ => rfl
  | 16, _ => rfl
  | 17, _ => rfl
  | 18, _ => rfl
  | 19, _ => rfl
  | 20, _ => rfl
  | 21, _ => rfl
  | 22, _ => rfl
  | 23, _ => rfl
  | 24, _ => rfl
  | j + 25, h => exact absurd h (by omega)
theorem h_blk {w : TG} {j : Nat} (h : j < 12) : bk_X4 w (63 + 9 * j) = rg w (63 + 9 * j) 9 := by
  have hj : j = 0 ∨ j = 1 ∨ j = 2 ∨ j = 3 ∨ j = 4 ∨ j = 5 ∨ j = 6 ∨ j = 7 ∨ j = 8 ∨ j = 9 ∨ j = 10 ∨ j = 11 := by omega
  rcases hj with rfl | rfl | rfl | rfl | rfl | rfl | rfl | rfl | rfl | rfl | rfl | rfl <;> rfl
abbrev hfs (w : TG) (n : Nat) : List Value := [.int 0, .int 0, .int 0, .int 5, .int 100, .int 0, .int 1, .int 0, .ref (wB w + (n + 1)), .ref (wB w + (n + 2)), .ref (wB w + (n + 3)), .ref (wB w + (n + 4)), .ref (wB w + (n + 5)), .ref (wB w + (n + 6)), .ref (wB w + (n + 7)), .ref (wB w + (n + 8))]
def m_X11_init : MD := (yX11_init, cX11_init, 2, none, 2, 34, 170, 6417)
theorem cki_X11 : cki m_X11_init 0 := ⟨gm (by decide +kernel) (by decide +kernel), gm (by decide +kernel) (by decide +kernel), gm (by decide +kernel) (by decide +kernel), rfl, rfl, by decide, by decide, by decide +kernel⟩
theorem bl_1 {w : TG} {e : va_E} : stg w e 0 ++ bk_X9 w 1 = stg w e 2 := by
  have h : bk_X9 w 1 = rg w 1 2 := rfl
  rw [h]
  exact stg_rg
theorem bl_3 {w : TG} {e : va_E} : stg w e 2 ++ bk_X4 w 3 = stg w e 11 := by
  have h : bk_X4 w 3 = rg w 3 9 := rfl
  rw [h]
  exact stg_rg
theorem bl_12 {w : TG} {e : va_E} : stg w e 11 ++ bk_X4 w 12 = stg w e 20 := by
  have h : bk_X4 w 12 = rg w 12 9 := rfl
  rw [h]
  exact stg_rg
theorem bl_21 {w : TG} {e : va_E} : stg w e 20 ++ bk_X4 w 21 = stg w e 29 := by
  have h : bk_X4 w 21 = rg w 21 9 := rfl
  rw [h]
  exact stg_rg
theorem bl_30 {w : TG} {e : va_E} : stg w e 29 ++ bk_X6 w 30 = stg w e 36 := by
  have h : bk_X6 w 30 = rg w 30 7 := rfl
  rw [h]
  exact stg_rg
theorem bl_37 {w : TG} {e : va_E} : stg w e 36 ++ bk_X6 w 37 = stg w e 43 := by
  have h : bk_X6 w 37 = rg w 37 7 := rfl
  rw [h]
  exact stg_rg
theorem bl_44 {w : TG} {e : va_E} : stg w e 43 ++ bk_X6 w 44 = stg w e 50 := by
  have h : bk_X6 w 44 = rg w 44 7 := rfl
  rw [h]
  exact stg_rg
theorem bl_51 {w : TG} {e : va_E} : stg w e 50 ++ bk_X5 w 51 (wB w + 1) = stg w e 51 := by
  have h : bk_X5 w 51 (wB w + 1) = rg w 51 1 := rfl
  rw [h]
  exact stg_rg
theorem bl_52 {w : TG} {e : va_E} : stg w e 51 ++ bk_X7 w 52 (wB w + 1) = stg w e 52 := by
  have h : bk_X7 w 52 (wB w + 1) = rg w 52 1 := rfl
  rw [h]
  exact stg_rg
theorem bl_53 {w : TG} {e : va_E} : stg w e 52 ++ bk_X1 w 53 (wB w + 3) (wB w + 30) = stg w e 54 := by
  have h : bk_X1 w 53 (wB w + 3) (wB w + 30) = rg w 53 2 := rfl
  rw [h]
  exact stg_rg
theorem bl_55 {w : TG} {e : va_E} : stg w e 54 ++ bk_X10 w 55 (wB w + 3) = stg w e 55 := by
  have h : bk_X10 w 55 (wB w + 3) = rg w 55 1 := rfl
  rw [h]
  exact stg_rg
theorem bl_56 {w : TG} {e : va_E} : stg w e 55 ++ bk_X8 w 56 (wB w + 3) = stg w e 58 := by
  have h : bk_X8 w 56 (wB w + 3) = rg w 56 3 := rfl
  rw [h]
  exact stg_rg
theorem bl_59 {w : TG} {e : va_E} : stg w e 58 ++ bk_X3 w 59 (wB w + 3) = stg w e 59 := by
  have h : bk_X3 w 59 (wB w + 3) = rg w 59 1 := rfl
  rw [h]
  exact stg_rg
theorem bl_60 {w : TG} {e : va_E} : stg w e 59 ++ bk_X2 w 60 (wB w + 3) (wB w + 1) = stg w e 61 := by
  have h : bk_X2 w 60 (wB w + 3) (wB w + 1) = rg w 60 2 := rfl
  rw [h]
  exact stg_rg
theorem len_j {w : TG} {e : va_E} {j : Nat} : (stg w e 61 ++ PE w j :: rg w 63 (9 * j)).length = 63 + 9 * j := by
  rw [List.length_append, stg_len, List.length_cons, rg_len]
  omega
theorem set_j {w : TG} {e x x' : va_E} {ts : List va_E} : (stg w e 61 ++ x :: ts).set 62 x' = stg w e 61 ++ x' :: ts := by
  have h := own_set (es := stg w e 61) (ts := ts) (x := x) (x' := x')
  rw [stg_len] at h
  exact h
theorem at_j {w : TG} {e x : va_E} {ts : List va_E} : (stg w e 61 ++ x :: ts)[62]? = some x := by
  have h := own_at (es := stg w e 61) (ts := ts) (x := x)
  rw [stg_len] at h
  exact h
theorem app_j {w : TG} {e x : va_E} {ts bs : List va_E} : (stg w e 61 ++ x :: ts) ++ bs = stg w e 61 ++ x :: (ts ++ bs) := by rw [List.append_assoc]; rfl
theorem nN_ofInt : ∀ j, j < 13 → (Int32.ofNat j).toNatClampNeg = j := by decide +kernel
theorem cs_loop {w : TG} {g : VG} {Q : State → Prop} (hi : (gH g).name = "<init>") (hX : XN true (gS g)) (kk : VC m_X11_init w g 170 6417 Q 230 [some (.ref (wB w + 0)), some (.int (nN 12))] [] (stg w (.inr (11, [.ref (wB w + 1), .ref (wB w + 3), .ref (wB w + 12), .ref (wB w + 21), .ref (wB w + 30), .ref (wB w + 37), .ref (wB w + 44), .ref (wB w + 51), .ref (wB w + 52), .ref (wB w + 53), .ref (wB w + 55), .ref (wB w + 56), .ref (wB w + 59), .ref (wB w + 60), .ref (wB w + 62), .int 0, .int 0, .int 0, .int 0])) 61 ++ PE w 12 :: rg w 63 108)) : ∀ m j, j + m = 12 → VC m_X11_init w g (62 + 9 * j) (2817 + 300 * j) Q 205 [some (.ref (wB w + 0)), some (.int (nN j))] [] (stg w (.inr (11, [.ref (wB w + 1), .ref (wB w + 3), .ref (wB w + 12), .ref (wB w + 21), .ref (wB w + 30), .ref (wB w + 37), .ref (wB w + 44), .ref (wB w + 51), .ref (wB w + 52), .ref (wB w + 53), .ref (wB w + 55), .ref (wB w + 56), .ref (wB w + 59), .ref (wB w + 60), .ref (wB w + 62), .int 0, .int 0, .int 0, .int 0])) 61 ++ PE w j :: rg w 63 (9 * j)) := by
  intro m
  induction m with
  | zero =>
    intro j hj
    have : j = 12 := by omega
    subst this
    refine C_iload_n dX11_init_205 (i := 1) rfl rfl ?_
    refine C_bipush dX11_init_206 (v := nN 12) (by decide +kernel) ?_
    refine C_icmp_ge dX11_init_208 (tgt := 230) (by decide) (fun _ => kk) (fun h => absurd (Int32.le_refl _) h)
  | succ m ih =>
    intro j hj
    have hj12 : j < 12 := by omega
    refine C_iload_n dX11_init_205 (i := 1) rfl rfl ?_
    refine C_bipush dX11_init_206 (v := nN 12) (by decide +kernel) ?_
    refine C_icmp_ge dX11_init_208 (tgt := 230) (by decide) (fun h => by rw [nN_le (by omega) (by omega)] at h; omega) (fun _ => ?_)
    refine C_aload_n dX11_init_211 (i := 0) rfl rfl ?_
    refine C_get (ci := 11) (o := 0) rfl in_11 (own := RX11) rfl rfl (k := 14) (by decide) (gm (by decide +kernel) (by decide +kernel)) rfl dX11_init_212 ?_
    refine C_iload_n dX11_init_215 (i := 1) rfl rfl ?_
    refine C_newq (q := 63 + 9 * j) len_j (ci := 4) rfl in_4 tyX4 tyX4_ok (own := RX11) rfl (gm (by decide +kernel) (by decide +kernel)) nw2_4.1 nw2_4.2 nwd_4 dX11_init_216 (by show 62 + 9 * j + 1 ≤ 170; omega) (by show 2817 + 300 * j + 16 ≤ 6417; omega) ?_
    refine C_dup dX11_init_219 rfl ?_
    refine C_callN (rest := [.ref (wB w + (63 + 9 * j)), .int (nN j), .ref (wB w + 62)]) (ck_X4 w _ (63 + 9 * j) len_j) XNf cki_X4 (hX rfl).2.1 rfl dX11_init_220 ⟨Nat.le_of_ble_eq_true rfl, Nat.le_of_ble_eq_true rfl⟩ rfl rfl (Nat.le_of_ble_eq_true rfl) (by show 62 + 9 * j + 1 + 8 ≤ 170; omega) (by show 2817 + 300 * j + 16 + 284 ≤ 6417; omega) ?_
    have hl := own_at (es := stg w (.inr (11, [.ref (wB w + 1), .ref (wB w + 3), .ref (wB w + 12), .ref (wB w + 21), .ref (wB w + 30), .ref (wB w + 37), .ref (wB w + 44), .ref (wB w + 51), .ref (wB w + 52), .ref (wB w + 53), .ref (wB w + 55), .ref (wB w + 56), .ref (wB w + 59), .ref (wB w + 60), .ref (wB w + 62), .int 0, .int 0, .int 0, .int 0])) 61 ++ PE w j :: rg w 63 (9 * j)) (x := .inr (4, hfs w (63 + 9 * j))) (ts := (bk_X4 w (63 + 9 * j)).tail)
    rw [len_j] at hl
    refine C_aast (o := 62) (qk := 63 + 9 * j) (n := 12) (f := pf w j) (by rw [app_j]; exact at_j) hl (inb_nN (by omega) hj12) dX11_init_223 ?_
    have ei : (nN j).toNatClampNeg = j := nN_ofInt j (by omega)
    rw [ei, pf_up hj12, app_j, set_j, h_blk hj12, rg_rg]
    refine C_iinc dX11_init_224 (x := nN j) (v := nN (j + 1)) (Nat.le_of_ble_eq_true rfl) rfl (nN_s j) rfl ?_
    refine C_goto dX11_init_227 (tgt := 205) (by decide) ?_
    have := ih (j + 1) (by omega)
    have e1 : 62 + 9 * j + 1 + 8 = 62 + 9 * (j + 1) := by omega
    have e2 : 2817 + 300 * j + 16 + 284 = 2817 + 300 * (j + 1) := by omega
    have e3 : 9 * j + 9 = 9 * (j + 1) := by omega
    show VC m_X11_init w g (62 + 9 * j + 1 + 8) (2817 + 300 * j + 16 + 284) Q 205 [some (.ref (wB w + 0)), some (.int (nN (j + 1)))] [] _
    rw [e1, e2, e3]
    exact this
theorem ck_X11 (w : TG) : MKX m_X11_init w [.ref (wB w + 0)] [.inr (11, [.null, .null, .null, .null, .null, .null, .null, .null, .null, .null, .null, .null, .null, .null, .null, .int 0, .int 0, .int 0, .int 0])] (stg w (ent w s0 0) 170) true := by
  refine C_methX (by decide) (Nat.le_of_ble_eq_true rfl) (by simp [Value.category]) rfl (fun g hi hX => ?_)
  show VC m_X11_init w g 0 0 _ 0 [some (.ref (wB w + 0)), none] [] (stg w (.inr (11, [.null, .null, .null, .null, .null, .null, .null, .null, .null, .null, .null, .null, .null, .null, .null, .int 0, .int 0, .int 0, .int 0])) 0)
  refine C_aload_n dX11_init_0 (i := 0) rfl rfl ?_
  refine C_obj (own := RX11) rfl (gm (by decide +kernel) (by decide +kernel)) w_oi w_oc dX11_init_1 (Nat.le_of_ble_eq_true rfl) (Nat.le_of_ble_eq_true rfl) ?_
  show VC m_X11_init w g 0 0 _ 4 [some (.ref (wB w + 0)), none] [] (stg w (.inr (11, [.null, .null, .null, .null, .null, .null, .null, .null, .null, .null, .null, .null, .null, .null, .null, .int 0, .int 0, .int 0, .int 0])) 0)
  refine C_aload_n dX11_init_4 (i := 0) rfl rfl ?_
  refine C_newq (q := 1) stg_len (ci := 9) rfl in_9 tyX9 tyX9_ok (own := RX11) rfl (gm (by decide +kernel) (by decide +kernel)) nw2_9.1 nw2_9.2 nwd_9 dX11_init_5 (Nat.le_of_ble_eq_true rfl) (Nat.le_of_ble_eq_true rfl) ?_
  refine C_dup dX11_init_8 rfl ?_
  refine C_callN (rest := [.ref (wB w + 1), .ref (wB w + 0)]) (ck_X9 w (stg w (.inr (11, [.null, .null, .null, .null, .null, .null, .null, .null, .null, .null, .null, .null, .null, .null, .null, .int 0, .int 0, .int 0, .int 0])) 0) 1 stg_len) XNf cki_X9 (hX rfl).1 rfl dX11_init_9 ⟨(Nat.le_of_ble_eq_true rfl), (Nat.le_of_ble_eq_true rfl)⟩ rfl rfl (Nat.le_of_ble_eq_true rfl) (Nat.le_of_ble_eq_true rfl) (Nat.le_of_ble_eq_true rfl) ?_
  rw [bl_1]
  refine K_putF (es := []) hi (ci := 11) rfl in_11 tyX11 tyX11_ok nmX11 (own := RX11) rfl (k := 0) (by decide) (gm (by decide +kernel) (by decide +kernel)) rfl rfl (tyX11_ok 0 (by decide)) rfl rfl (Nat.le_of_ble_eq_true rfl) dX11_init_12 ?_
  show VC m_X11_init w g 2 405 _ 15 [some (.ref (wB w + 0)), none] [] (stg w (.inr (11, [.ref (wB w + 1), .null, .null, .null, .null, .null, .null, .null, .null, .null, .null, .null, .null, .null, .null, .int 0, .int 0, .int 0, .int 0])) 2)
  refine C_aload_n dX11_init_15 (i := 0) rfl rfl ?_
  refine C_newq (q := 3) stg_len (ci := 4) rfl in_4 tyX4 tyX4_ok (own := RX11) rfl (gm (by decide +kernel) (by decide +kernel)) nw2_4.1 nw2_4.2 nwd_4 dX11_init_16 (Nat.le_of_ble_eq_true rfl) (Nat.le_of_ble_eq_true rfl) ?_
  refine C_dup dX11_init_19 rfl ?_
  refine C_callN (rest := [.ref (wB w + 3), .ref (wB w + 0)]) (ck_X4 w (stg w (.inr (11, [.ref (wB w + 1), .null, .null, .null, .null, .null, .null, .null, .null, .null, .null, .null, .null, .null, .null, .int 0, .int 0, .int 0, .int 0])) 2) 3 stg_len) XNf cki_X4 (hX rfl).2.1 rfl dX11_init_20 ⟨(Nat.le_of_ble_eq_true rfl), (Nat.le_of_ble_eq_true rfl)⟩ rfl rfl (Nat.le_of_ble_eq_true rfl) (Nat.le_of_ble_eq_true rfl) (Nat.le_of_ble_eq_true rfl) ?_
  rw [bl_3]
  refine K_putF (es := []) hi (ci := 11) rfl in_11 tyX11 tyX11_ok nmX11 (own := RX11) rfl (k := 1) (by decide) (gm (by decide +kernel) (by decide +kernel)) rfl rfl (tyX11_ok 1 (by decide)) rfl rfl (Nat.le_of_ble_eq_true rfl) dX11_init_23 ?_
  show VC m_X11_init w g 11 705 _ 26 [some (.ref (wB w + 0)), none] [] (stg w (.inr (11, [.ref (wB w + 1), .ref (wB w + 3), .null, .null, .null, .null, .null, .null, .null, .null, .null, .null, .null, .null, .null, .int 0, .int 0, .int 0, .int 0])) 11)
  refine C_aload_n dX11_init_26 (i := 0) rfl rfl ?_
  refine C_newq (q := 12) stg_len (ci := 4) rfl in_4 tyX4 tyX4_ok (own := RX11) rfl (gm (by decide +kernel) (by decide +kernel)) nw2_4.1 nw2_4.2 nwd_4 dX11_init_27 (Nat.le_of_ble_eq_true rfl) (Nat.le_of_ble_eq_true rfl) ?_
  refine C_dup dX11_init_30 rfl ?_
  refine C_callN (rest := [.ref (wB w + 12), .ref (wB w + 0)]) (ck_X4 w (stg w (.inr (11, [.ref (wB w + 1), .ref (wB w + 3), .null, .null, .null, .null, .null, .null, .null, .null, .null, .null, .null, .null, .null, .int 0, .int 0, .int 0, .int 0])) 11) 12 stg_len) XNf cki_X4 (hX rfl).2.1 rfl dX11_init_31 ⟨(Nat.le_of_ble_eq_true rfl), (Nat.le_of_ble_eq_true rfl)⟩ rfl rfl (Nat.le_of_ble_eq_true rfl) (Nat.le_of_ble_eq_true rfl) (Nat.le_of_ble_eq_true rfl) ?_
  rw [bl_12]
  refine K_putF (es := []) hi (ci := 11) rfl in_11 tyX11 tyX11_ok nmX11 (own := RX11) rfl (k := 2) (by decide) (gm (by decide +kernel) (by decide +kernel)) rfl rfl (tyX11_ok 2 (by decide)) rfl rfl (Nat.le_of_ble_eq_true rfl) dX11_init_34 ?_
  show VC m_X11_init w g 20 1005 _ 37 [some (.ref (wB w + 0)), none] [] (stg w (.inr (11, [.ref (wB w + 1), .ref (wB w + 3), .ref (wB w + 12), .null, .null, .null, .null, .null, .null, .null, .null, .null, .null, .null, .null, .int 0, .int 0, .int 0, .int 0])) 20)
  refine C_aload_n dX11_init_37 (i := 0) rfl rfl ?_
  refine C_newq (q := 21) stg_len (ci := 4) rfl in_4 tyX4 tyX4_ok (own := RX11) rfl (gm (by decide +kernel) (by decide +kernel)) nw2_4.1 nw2_4.2 nwd_4 dX11_init_38 (Nat.le_of_ble_eq_true rfl) (Nat.le_of_ble_eq_true rfl) ?_
  refine C_dup dX11_init_41 rfl ?_
  refine C_callN (rest := [.ref (wB w + 21), .ref (wB w + 0)]) (ck_X4 w (stg w (.inr (11, [.ref (wB w + 1), .ref (wB w + 3), .ref (wB w + 12), .null, .null, .null, .null, .null, .null, .null, .null, .null, .null, .null, .null, .int 0, .int 0, .int 0, .int 0])) 20) 21 stg_len) XNf cki_X4 (hX rfl).2.1 rfl dX11_init_42 ⟨(Nat.le_of_ble_eq_true rfl), (Nat.le_of_ble_eq_true rfl)⟩ rfl rfl (Nat.le_of_ble_eq_true rfl) (Nat.le_of_ble_eq_true rfl) (Nat.le_of_ble_eq_true rfl) ?_
  rw [bl_21]
  refine K_putF (es := []) hi (ci := 11) rfl in_11 tyX11 tyX11_ok nmX11 (own := RX11) rfl (k := 3) (by decide) (gm (by decide +kernel) (by decide +kernel)) rfl rfl (tyX11_ok 3 (by decide)) rfl rfl (Nat.le_of_ble_eq_true rfl) dX11_init_45 ?_
  show VC m_X11_init w g 29 1305 _ 48 [some (.ref (wB w + 0)), none] [] (stg w (.inr (11, [.ref (wB w + 1), .ref (wB w + 3), .ref (wB w + 12), .ref (wB w + 21), .null, .null, .null, .null, .null, .null, .null, .null, .null, .null, .null, .int 0, .int 0, .int 0, .int 0])) 29)
  refine C_aload_n dX11_init_48 (i := 0) rfl rfl ?_
  refine C_newq (q := 30) stg_len (ci := 6) rfl in_6 tyX6 tyX6_ok (own := RX11) rfl (gm (by decide +kernel) (by decide +kernel)) nw2_6.1 nw2_6.2 nwd_6 dX11_init_49 (Nat.le_of_ble_eq_true rfl) (Nat.le_of_ble_eq_true rfl) ?_
  refine C_dup dX11_init_52 rfl ?_
  refine C_callN (rest := [.ref (wB w + 30), .ref (wB w + 0)]) (ck_X6 w (stg w (.inr (11, [.ref (wB w + 1), .ref (wB w + 3), .ref (wB w + 12), .ref (wB w + 21), .null, .null, .null, .null, .null, .null, .null, .null, .null, .null, .null, .int 0, .int 0, .int 0, .int 0])) 29) 30 stg_len) XNf cki_X6 (hX rfl).2.2.1 rfl dX11_init_53 ⟨(Nat.le_of_ble_eq_true rfl), (Nat.le_of_ble_eq_true rfl)⟩ rfl rfl (Nat.le_of_ble_eq_true rfl) (Nat.le_of_ble_eq_true rfl) (Nat.le_of_ble_eq_true rfl) ?_
  rw [bl_30]
  refine K_putF (es := []) hi (ci := 11) rfl in_11 tyX11 tyX11_ok nmX11 (own := RX11) rfl (k := 4) (by decide) (gm (by decide +kernel) (by decide +kernel)) rfl rfl (tyX11_ok 4 (by decide)) rfl rfl (Nat.le_of_ble_eq_true rfl) dX11_init_56 ?_
  show VC m_X11_init w g 36 1789 _ 59 [some (.ref (wB w + 0)), none] [] (stg w (.inr (11, [.ref (wB w + 1), .ref (wB w + 3), .ref (wB w + 12), .ref (wB w + 21), .ref (wB w + 30), .null, .null, .null, .null, .null, .null, .null, .null, .null, .null, .int 0, .int 0, .int 0, .int 0])) 36)
  refine C_aload_n dX11_init_59 (i := 0) rfl rfl ?_
  refine C_newq (q := 37) stg_len (ci := 6) rfl in_6 tyX6 tyX6_ok (own := RX11) rfl (gm (by decide +kernel) (by decide +kernel)) nw2_6.1 nw2_6.2 nwd_6 dX11_init_60 (Nat.le_of_ble_eq_true rfl) (Nat.le_of_ble_eq_true rfl) ?_
  refine C_dup dX11_init_63 rfl ?_
  refine C_callN (rest := [.ref (wB w + 37), .ref (wB w + 0)]) (ck_X6 w (stg w (.inr (11, [.ref (wB w + 1), .ref (wB w + 3), .ref (wB w + 12), .ref (wB w + 21), .ref (wB w + 30), .null, .null, .null, .null, .null, .null, .null, .null, .null, .null, .int 0, .int 0, .int 0, .int 0])) 36) 37 stg_len) XNf cki_X6 (hX rfl).2.2.1 rfl dX11_init_64 ⟨(Nat.le_of_ble_eq_true rfl), (Nat.le_of_ble_eq_true rfl)⟩ rfl rfl (Nat.le_of_ble_eq_true rfl) (Nat.le_of_ble_eq_true rfl) (Nat.le_of_ble_eq_true rfl) ?_
  rw [bl_37]
  refine K_putF (es := []) hi (ci := 11) rfl in_11 tyX11 tyX11_ok nmX11 (own := RX11) rfl (k := 5) (by decide) (gm (by decide +kernel) (by decide +kernel)) rfl rfl (tyX11_ok 5 (by decide)) rfl rfl (Nat.le_of_ble_eq_true rfl) dX11_init_67 ?_
  show VC m_X11_init w g 43 2273 _ 70 [some (.ref (wB w + 0)), none] [] (stg w (.inr (11, [.ref (wB w + 1), .ref (wB w + 3), .ref (wB w + 12), .ref (wB w + 21), .ref (wB w + 30), .ref (wB w + 37), .null, .null, .null, .null, .null, .null, .null, .null, .null, .int 0, .int 0, .int 0, .int 0])) 43)
  refine C_aload_n dX11_init_70 (i := 0) rfl rfl ?_
  refine C_newq (q := 44) stg_len (ci := 6) rfl in_6 tyX6 tyX6_ok (own := RX11) rfl (gm (by decide +kernel) (by decide +kernel)) nw2_6.1 nw2_6.2 nwd_6 dX11_init_71 (Nat.le_of_ble_eq_true rfl) (Nat.le_of_ble_eq_true rfl) ?_
  refine C_dup dX11_init_74 rfl ?_
  refine C_callN (rest := [.ref (wB w + 44), .ref (wB w + 0)]) (ck_X6 w (stg w (.inr (11, [.ref (wB w + 1), .ref (wB w + 3), .ref (wB w + 12), .ref (wB w + 21), .ref (wB w + 30), .ref (wB w + 37), .null, .null, .null, .null, .null, .null, .null, .null, .null, .int 0, .int 0, .int 0, .int 0])) 43) 44 stg_len) XNf cki_X6 (hX rfl).2.2.1 rfl dX11_init_75 ⟨(Nat.le_of_ble_eq_true rfl), (Nat.le_of_ble_eq_true rfl)⟩ rfl rfl (Nat.le_of_ble_eq_true rfl) (Nat.le_of_ble_eq_true rfl) (Nat.le_of_ble_eq_true rfl) ?_
  rw [bl_44]
  refine K_putF (es := []) hi (ci := 11) rfl in_11 tyX11 tyX11_ok nmX11 (own := RX11) rfl (k := 6) (by decide) (gm (by decide +kernel) (by decide +kernel)) rfl rfl (tyX11_ok 6 (by decide)) rfl rfl (Nat.le_of_ble_eq_true rfl) dX11_init_78 ?_
  show VC m_X11_init w g 50 2757 _ 81 [some (.ref (wB w + 0)), none] [] (stg w (.inr (11, [.ref (wB w + 1), .ref (wB w + 3), .ref (wB w + 12), .ref (wB w + 21), .ref (wB w + 30), .ref (wB w + 37), .ref (wB w + 44), .null, .null, .null, .null, .null, .null, .null, .null, .int 0, .int 0, .int 0, .int 0])) 50)
  refine C_aload_n dX11_init_81 (i := 0) rfl rfl ?_
  refine C_newq (q := 51) stg_len (ci := 5) rfl in_5 tyX5 tyX5_ok (own := RX11) rfl (gm (by decide +kernel) (by decide +kernel)) nw2_5.1 nw2_5.2 nwd_5 dX11_init_82 (Nat.le_of_ble_eq_true rfl) (Nat.le_of_ble_eq_true rfl) ?_
  refine C_dup dX11_init_85 rfl ?_
  refine C_aload_n dX11_init_86 (i := 0) rfl rfl ?_
  refine C_get (ci := 11) (o := 0) rfl in_11 (own := RX11) rfl rfl (k := 0) (by decide) (gm (by decide +kernel) (by decide +kernel)) rfl dX11_init_87 ?_
  refine C_callI (rest := [.ref (wB w + 51), .ref (wB w + 0)]) (ck_X5 w (stg w (.inr (11, [.ref (wB w + 1), .ref (wB w + 3), .ref (wB w + 12), .ref (wB w + 21), .ref (wB w + 30), .ref (wB w + 37), .ref (wB w + 44), .null, .null, .null, .null, .null, .null, .null, .null, .int 0, .int 0, .int 0, .int 0])) 50) 51 (wB w + 1) stg_len) XNf cki_X5 (gm (by decide +kernel) (by decide +kernel)) rfl dX11_init_90 ⟨(Nat.le_of_ble_eq_true rfl), (Nat.le_of_ble_eq_true rfl)⟩ rfl rfl (Nat.le_of_ble_eq_true rfl) (Nat.le_of_ble_eq_true rfl) (Nat.le_of_ble_eq_true rfl) ?_
  rw [bl_51]
  refine K_putF (es := []) hi (ci := 11) rfl in_11 tyX11 tyX11_ok nmX11 (own := RX11) rfl (k := 7) (by decide) (gm (by decide +kernel) (by decide +kernel)) rfl rfl (tyX11_ok 7 (by decide)) rfl rfl (Nat.le_of_ble_eq_true rfl) dX11_init_93 ?_
  show VC m_X11_init w g 51 2758 _ 96 [some (.ref (wB w + 0)), none] [] (stg w (.inr (11, [.ref (wB w + 1), .ref (wB w + 3), .ref (wB w + 12), .ref (wB w + 21), .ref (wB w + 30), .ref (wB w + 37), .ref (wB w + 44), .ref (wB w + 51), .null, .null, .null, .null, .null, .null, .null, .int 0, .int 0, .int 0, .int 0])) 51)
  refine C_aload_n dX11_init_96 (i := 0) rfl rfl ?_
  refine C_newq (q := 52) stg_len (ci := 7) rfl in_7 tyX7 tyX7_ok (own := RX11) rfl (gm (by decide +kernel) (by decide +kernel)) nw2_7.1 nw2_7.2 nwd_7 dX11_init_97 (Nat.le_of_ble_eq_true rfl) (Nat.le_of_ble_eq_true rfl) ?_
  refine C_dup dX11_init_100 rfl ?_
  refine C_aload_n dX11_init_101 (i := 0) rfl rfl ?_
  refine C_get (ci := 11) (o := 0) rfl in_11 (own := RX11) rfl rfl (k := 0) (by decide) (gm (by decide +kernel) (by decide +kernel)) rfl dX11_init_102 ?_
  refine C_callI (rest := [.ref (wB w + 52), .ref (wB w + 0)]) (ck_X7 w (stg w (.inr (11, [.ref (wB w + 1), .ref (wB w + 3), .ref (wB w + 12), .ref (wB w + 21), .ref (wB w + 30), .ref (wB w + 37), .ref (wB w + 44), .ref (wB w + 51), .null, .null, .null, .null, .null, .null, .null, .int 0, .int 0, .int 0, .int 0])) 51) 52 (wB w + 1) stg_len) XNf cki_X7 (gm (by decide +kernel) (by decide +kernel)) rfl dX11_init_105 ⟨(Nat.le_of_ble_eq_true rfl), (Nat.le_of_ble_eq_true rfl)⟩ rfl rfl (Nat.le_of_ble_eq_true rfl) (Nat.le_of_ble_eq_true rfl) (Nat.le_of_ble_eq_true rfl) ?_
  rw [bl_52]
  refine K_putF (es := []) hi (ci := 11) rfl in_11 tyX11 tyX11_ok nmX11 (own := RX11) rfl (k := 8) (by decide) (gm (by decide +kernel) (by decide +kernel)) rfl rfl (tyX11_ok 8 (by decide)) rfl rfl (Nat.le_of_ble_eq_true rfl) dX11_init_108 ?_
  show VC m_X11_init w g 52 2759 _ 111 [some (.ref (wB w + 0)), none] [] (stg w (.inr (11, [.ref (wB w + 1), .ref (wB w + 3), .ref (wB w + 12), .ref (wB w + 21), .ref (wB w + 30), .ref (wB w + 37), .ref (wB w + 44), .ref (wB w + 51), .ref (wB w + 52), .null, .null, .null, .null, .null, .null, .int 0, .int 0, .int 0, .int 0])) 52)
  refine C_aload_n dX11_init_111 (i := 0) rfl rfl ?_
  refine C_newq (q := 53) stg_len (ci := 1) rfl in_1 tyX1 tyX1_ok (own := RX11) rfl (gm (by decide +kernel) (by decide +kernel)) nw2_1.1 nw2_1.2 nwd_1 dX11_init_112 (Nat.le_of_ble_eq_true rfl) (Nat.le_of_ble_eq_true rfl) ?_
  refine C_dup dX11_init_115 rfl ?_
  refine C_aload_n dX11_init_116 (i := 0) rfl rfl ?_
  refine C_get (ci := 11) (o := 0) rfl in_11 (own := RX11) rfl rfl (k := 1) (by decide) (gm (by decide +kernel) (by decide +kernel)) rfl dX11_init_117 ?_
  refine C_aload_n dX11_init_120 (i := 0) rfl rfl ?_
  refine C_get (ci := 11) (o := 0) rfl in_11 (own := RX11) rfl rfl (k := 4) (by decide) (gm (by decide +kernel) (by decide +kernel)) rfl dX11_init_121 ?_
  refine C_callI (rest := [.ref (wB w + 53), .ref (wB w + 0)]) (ck_X1 w (stg w (.inr (11, [.ref (wB w + 1), .ref (wB w + 3), .ref (wB w + 12), .ref (wB w + 21), .ref (wB w + 30), .ref (wB w + 37), .ref (wB w + 44), .ref (wB w + 51), .ref (wB w + 52), .null, .null, .null, .null, .null, .null, .int 0, .int 0, .int 0, .int 0])) 52) 53 (wB w + 3) (wB w + 30) stg_len) XNf cki_X1 (gm (by decide +kernel) (by decide +kernel)) rfl dX11_init_124 ⟨(Nat.le_of_ble_eq_true rfl), (Nat.le_of_ble_eq_true rfl)⟩ rfl rfl (Nat.le_of_ble_eq_true rfl) (Nat.le_of_ble_eq_true rfl) (Nat.le_of_ble_eq_true rfl) ?_
  rw [bl_53]
  refine K_putF (es := []) hi (ci := 11) rfl in_11 tyX11 tyX11_ok nmX11 (own := RX11) rfl (k := 9) (by decide) (gm (by decide +kernel) (by decide +kernel)) rfl rfl (tyX11_ok 9 (by decide)) rfl rfl (Nat.le_of_ble_eq_true rfl) dX11_init_127 ?_
  show VC m_X11_init w g 54 2770 _ 130 [some (.ref (wB w + 0)), none] [] (stg w (.inr (11, [.ref (wB w + 1), .ref (wB w + 3), .ref (wB w + 12), .ref (wB w + 21), .ref (wB w + 30), .ref (wB w + 37), .ref (wB w + 44), .ref (wB w + 51), .ref (wB w + 52), .ref (wB w + 53), .null, .null, .null, .null, .null, .int 0, .int 0, .int 0, .int 0])) 54)
  refine C_aload_n dX11_init_130 (i := 0) rfl rfl ?_
  refine C_newq (q := 55) stg_len (ci := 10) rfl in_10 tyX10 tyX10_ok (own := RX11) rfl (gm (by decide +kernel) (by decide +kernel)) nw2_10.1 nw2_10.2 nwd_10 dX11_init_131 (Nat.le_of_ble_eq_true rfl) (Nat.le_of_ble_eq_true rfl) ?_
  refine C_dup dX11_init_134 rfl ?_
  refine C_aload_n dX11_init_135 (i := 0) rfl rfl ?_
  refine C_get (ci := 11) (o := 0) rfl in_11 (own := RX11) rfl rfl (k := 1) (by decide) (gm (by decide +kernel) (by decide +kernel)) rfl dX11_init_136 ?_
  refine C_callI (rest := [.ref (wB w + 55), .ref (wB w + 0)]) (ck_X10 w (stg w (.inr (11, [.ref (wB w + 1), .ref (wB w + 3), .ref (wB w + 12), .ref (wB w + 21), .ref (wB w + 30), .ref (wB w + 37), .ref (wB w + 44), .ref (wB w + 51), .ref (wB w + 52), .ref (wB w + 53), .null, .null, .null, .null, .null, .int 0, .int 0, .int 0, .int 0])) 54) 55 (wB w + 3) stg_len) XNf cki_X10 (gm (by decide +kernel) (by decide +kernel)) rfl dX11_init_139 ⟨(Nat.le_of_ble_eq_true rfl), (Nat.le_of_ble_eq_true rfl)⟩ rfl rfl (Nat.le_of_ble_eq_true rfl) (Nat.le_of_ble_eq_true rfl) (Nat.le_of_ble_eq_true rfl) ?_
  rw [bl_55]
  refine K_putF (es := []) hi (ci := 11) rfl in_11 tyX11 tyX11_ok nmX11 (own := RX11) rfl (k := 10) (by decide) (gm (by decide +kernel) (by decide +kernel)) rfl rfl (tyX11_ok 10 (by decide)) rfl rfl (Nat.le_of_ble_eq_true rfl) dX11_init_142 ?_
  show VC m_X11_init w g 55 2771 _ 145 [some (.ref (wB w + 0)), none] [] (stg w (.inr (11, [.ref (wB w + 1), .ref (wB w + 3), .ref (wB w + 12), .ref (wB w + 21), .ref (wB w + 30), .ref (wB w + 37), .ref (wB w + 44), .ref (wB w + 51), .ref (wB w + 52), .ref (wB w + 53), .ref (wB w + 55), .null, .null, .null, .null, .int 0, .int 0, .int 0, .int 0])) 55)
  refine C_aload_n dX11_init_145 (i := 0) rfl rfl ?_
  refine C_newq (q := 56) stg_len (ci := 8) rfl in_8 tyX8 tyX8_ok (own := RX11) rfl (gm (by decide +kernel) (by decide +kernel)) nw2_8.1 nw2_8.2 nwd_8 dX11_init_146 (Nat.le_of_ble_eq_true rfl) (Nat.le_of_ble_eq_true rfl) ?_
  refine C_dup dX11_init_149 rfl ?_
  refine C_aload_n dX11_init_150 (i := 0) rfl rfl ?_
  refine C_get (ci := 11) (o := 0) rfl in_11 (own := RX11) rfl rfl (k := 1) (by decide) (gm (by decide +kernel) (by decide +kernel)) rfl dX11_init_151 ?_
  refine C_callI (rest := [.ref (wB w + 56), .ref (wB w + 0)]) (ck_X8 w (stg w (.inr (11, [.ref (wB w + 1), .ref (wB w + 3), .ref (wB w + 12), .ref (wB w + 21), .ref (wB w + 30), .ref (wB w + 37), .ref (wB w + 44), .ref (wB w + 51), .ref (wB w + 52), .ref (wB w + 53), .ref (wB w + 55), .null, .null, .null, .null, .int 0, .int 0, .int 0, .int 0])) 55) 56 (wB w + 3) stg_len) XNf cki_X8 (gm (by decide +kernel) (by decide +kernel)) rfl dX11_init_154 ⟨(Nat.le_of_ble_eq_true rfl), (Nat.le_of_ble_eq_true rfl)⟩ rfl rfl (Nat.le_of_ble_eq_true rfl) (Nat.le_of_ble_eq_true rfl) (Nat.le_of_ble_eq_true rfl) ?_
  rw [bl_56]
  refine K_putF (es := []) hi (ci := 11) rfl in_11 tyX11 tyX11_ok nmX11 (own := RX11) rfl (k := 11) (by decide) (gm (by decide +kernel) (by decide +kernel)) rfl rfl (tyX11_ok 11 (by decide)) rfl rfl (Nat.le_of_ble_eq_true rfl) dX11_init_157 ?_
  show VC m_X11_init w g 58 2791 _ 160 [some (.ref (wB w + 0)), none] [] (stg w (.inr (11, [.ref (wB w + 1), .ref (wB w + 3), .ref (wB w + 12), .ref (wB w + 21), .ref (wB w + 30), .ref (wB w + 37), .ref (wB w + 44), .ref (wB w + 51), .ref (wB w + 52), .ref (wB w + 53), .ref (wB w + 55), .ref (wB w + 56), .null, .null, .null, .int 0, .int 0, .int 0, .int 0])) 58)
  refine C_aload_n dX11_init_160 (i := 0) rfl rfl ?_
  refine C_newq (q := 59) stg_len (ci := 3) rfl in_3 tyX3 tyX3_ok (own := RX11) rfl (gm (by decide +kernel) (by decide +kernel)) nw2_3.1 nw2_3.2 nwd_3 dX11_init_161 (Nat.le_of_ble_eq_true rfl) (Nat.le_of_ble_eq_true rfl) ?_
  refine C_dup dX11_init_164 rfl ?_
  refine C_aload_n dX11_init_165 (i := 0) rfl rfl ?_
  refine C_get (ci := 11) (o := 0) rfl in_11 (own := RX11) rfl rfl (k := 1) (by decide) (gm (by decide +kernel) (by decide +kernel)) rfl dX11_init_166 ?_
  refine C_callI (rest := [.ref (wB w + 59), .ref (wB w + 0)]) (ck_X3 w (stg w (.inr (11, [.ref (wB w + 1), .ref (wB w + 3), .ref (wB w + 12), .ref (wB w + 21), .ref (wB w + 30), .ref (wB w + 37), .ref (wB w + 44), .ref (wB w + 51), .ref (wB w + 52), .ref (wB w + 53), .ref (wB w + 55), .ref (wB w + 56), .null, .null, .null, .int 0, .int 0, .int 0, .int 0])) 58) 59 (wB w + 3) stg_len) XNf cki_X3 (gm (by decide +kernel) (by decide +kernel)) rfl dX11_init_169 ⟨(Nat.le_of_ble_eq_true rfl), (Nat.le_of_ble_eq_true rfl)⟩ rfl rfl (Nat.le_of_ble_eq_true rfl) (Nat.le_of_ble_eq_true rfl) (Nat.le_of_ble_eq_true rfl) ?_
  rw [bl_59]
  refine K_putF (es := []) hi (ci := 11) rfl in_11 tyX11 tyX11_ok nmX11 (own := RX11) rfl (k := 12) (by decide) (gm (by decide +kernel) (by decide +kernel)) rfl rfl (tyX11_ok 12 (by decide)) rfl rfl (Nat.le_of_ble_eq_true rfl) dX11_init_172 ?_
  show VC m_X11_init w g 59 2792 _ 175 [some (.ref (wB w + 0)), none] [] (stg w (.inr (11, [.ref (wB w + 1), .ref (wB w + 3), .ref (wB w + 12), .ref (wB w + 21), .ref (wB w + 30), .ref (wB w + 37), .ref (wB w + 44), .ref (wB w + 51), .ref (wB w + 52), .ref (wB w + 53), .ref (wB w + 55), .ref (wB w + 56), .ref (wB w + 59), .null, .null, .int 0, .int 0, .int 0, .int 0])) 59)
  refine C_aload_n dX11_init_175 (i := 0) rfl rfl ?_
  refine C_newq (q := 60) stg_len (ci := 2) rfl in_2 tyX2 tyX2_ok (own := RX11) rfl (gm (by decide +kernel) (by decide +kernel)) nw2_2.1 nw2_2.2 nwd_2 dX11_init_176 (Nat.le_of_ble_eq_true rfl) (Nat.le_of_ble_eq_true rfl) ?_
  refine C_dup dX11_init_179 rfl ?_
  refine C_aload_n dX11_init_180 (i := 0) rfl rfl ?_
  refine C_get (ci := 11) (o := 0) rfl in_11 (own := RX11) rfl rfl (k := 1) (by decide) (gm (by decide +kernel) (by decide +kernel)) rfl dX11_init_181 ?_
  refine C_aload_n dX11_init_184 (i := 0) rfl rfl ?_
  refine C_get (ci := 11) (o := 0) rfl in_11 (own := RX11) rfl rfl (k := 0) (by decide) (gm (by decide +kernel) (by decide +kernel)) rfl dX11_init_185 ?_
  refine C_callI (rest := [.ref (wB w + 60), .ref (wB w + 0)]) (ck_X2 w (stg w (.inr (11, [.ref (wB w + 1), .ref (wB w + 3), .ref (wB w + 12), .ref (wB w + 21), .ref (wB w + 30), .ref (wB w + 37), .ref (wB w + 44), .ref (wB w + 51), .ref (wB w + 52), .ref (wB w + 53), .ref (wB w + 55), .ref (wB w + 56), .ref (wB w + 59), .null, .null, .int 0, .int 0, .int 0, .int 0])) 59) 60 (wB w + 3) (wB w + 1) stg_len) XNf cki_X2 (gm (by decide +kernel) (by decide +kernel)) rfl dX11_init_188 ⟨(Nat.le_of_ble_eq_true rfl), (Nat.le_of_ble_eq_true rfl)⟩ rfl rfl (Nat.le_of_ble_eq_true rfl) (Nat.le_of_ble_eq_true rfl) (Nat.le_of_ble_eq_true rfl) ?_
  rw [bl_60]
  refine K_putF (es := []) hi (ci := 11) rfl in_11 tyX11 tyX11_ok nmX11 (own := RX11) rfl (k := 13) (by decide) (gm (by decide +kernel) (by decide +kernel)) rfl rfl (tyX11_ok 13 (by decide)) rfl rfl (Nat.le_of_ble_eq_true rfl) dX11_init_191 ?_
  show VC m_X11_init w g 61 2805 _ 194 [some (.ref (wB w + 0)), none] [] (stg w (.inr (11, [.ref (wB w + 1), .ref (wB w + 3), .ref (wB w + 12), .ref (wB w + 21), .ref (wB w + 30), .ref (wB w + 37), .ref (wB w + 44), .ref (wB w + 51), .ref (wB w + 52), .ref (wB w + 53), .ref (wB w + 55), .ref (wB w + 56), .ref (wB w + 59), .ref (wB w + 60), .null, .int 0, .int 0, .int 0, .int 0])) 61)
  refine C_aload_n dX11_init_194 (i := 0) rfl rfl ?_
  refine C_bipush dX11_init_195 (v := 12) (by decide +kernel) ?_
  refine C_anewq (q := 62) (f := pf w 0) stg_len (hX rfl).2.2.2 (own := RX11) rfl (gm (by decide +kernel) (by decide +kernel)) (by decide) (N := 12) (by decide +kernel) (by omega) (Nat.le_of_ble_eq_true rfl) (Nat.le_of_ble_eq_true rfl) (fun j hj => if_pos ⟨Nat.zero_le _, hj⟩) dX11_init_197 ?_
  refine K_putF (es := []) hi (ci := 11) rfl in_11 tyX11 tyX11_ok nmX11 (own := RX11) rfl (k := 14) (by decide) (gm (by decide +kernel) (by decide +kernel)) rfl rfl (tyX11_ok 14 (by decide)) rfl rfl (Nat.le_of_ble_eq_true rfl) dX11_init_200 ?_
  refine C_iconst dX11_init_203 (v := nN 0) (by decide +kernel) ?_
  refine C_istore_n dX11_init_204 (i := 1) rfl (Nat.le_of_ble_eq_true rfl) (Nat.le_of_ble_eq_true rfl) rfl ?_
  refine cs_loop hi hX (show VC m_X11_init w g 170 6417 _ 230 [some (.ref (wB w + 0)), some (.int (nN 12))] [] (stg w (.inr (11, [.ref (wB w + 1), .ref (wB w + 3), .ref (wB w + 12), .ref (wB w + 21), .ref (wB w + 30), .ref (wB w + 37), .ref (wB w + 44), .ref (wB w + 51), .ref (wB w + 52), .ref (wB w + 53), .ref (wB w + 55), .ref (wB w + 56), .ref (wB w + 59), .ref (wB w + 60), .ref (wB w + 62), .int 0, .int 0, .int 0, .int 0])) 61 ++ PE w 12 :: rg w 63 108) from ?_) 12 0 rfl
  refine C_aload_n dX11_init_230 (i := 0) rfl rfl ?_
  refine C_iconst dX11_init_231 (v := (-1)) (by decide +kernel) ?_
  refine K_put (es := []) (ci := 11) rfl in_11 tyX11 tyX11_ok nmX11 (own := RX11) rfl (k := 18) (by decide) (gm (by decide +kernel) (by decide +kernel)) rfl (tyX11_ok 18 (by decide)) rfl rfl (Nat.le_of_ble_eq_true rfl) dX11_init_232 ?_
  have ee : stg w (.inr (11, [.ref (wB w + 1), .ref (wB w + 3), .ref (wB w + 12), .ref (wB w + 21), .ref (wB w + 30), .ref (wB w + 37), .ref (wB w + 44), .ref (wB w + 51), .ref (wB w + 52), .ref (wB w + 53), .ref (wB w + 55), .ref (wB w + 56), .ref (wB w + 59), .ref (wB w + 60), .ref (wB w + 62), .int 0, .int 0, .int 0, .int (-1)])) 61 ++ PE w 12 :: rg w 63 108 = stg w (ent w s0 0) 170 := by
    have e1 : .inr (11, [.ref (wB w + 1), .ref (wB w + 3), .ref (wB w + 12), .ref (wB w + 21), .ref (wB w + 30), .ref (wB w + 37), .ref (wB w + 44), .ref (wB w + 51), .ref (wB w + 52), .ref (wB w + 53), .ref (wB w + 55), .ref (wB w + 56), .ref (wB w + 59), .ref (wB w + 60), .ref (wB w + 62), .int 0, .int 0, .int 0, .int (-1)]) = ent w s0 0 := rfl
    rw [e1, PE_12, List.append_cons]
    have e2 : stg w (ent w s0 0) 61 ++ [ent w s0 62] = stg w (ent w s0 0) 62 := stg_rg (k := 61) (m := 1)
    rw [e2]
    exact stg_rg (k := 62) (m := 108)
  rw [← ee]
  exact C_ret dX11_init_235 rfl (Nat.le_of_ble_eq_true rfl) (Nat.le_of_ble_eq_true rfl)
