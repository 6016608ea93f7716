/-! layer 1: the constructors that make no others -/
def s0 : MS := fun o k => if o = 172 then upd (upd (upd (fun _ => 0) 5 5) 6 100) 9 1 k else if kd o = 4 then (if k = 3 then 5 else if k = 4 then 100 else if k = 6 then 1 else 0) else if kd o = 6 then (if k = 0 then -1 else 0) else if o = 0 then (if k = 18 then -1 else 0) else if o = 171 then (if k = 14 then -1 else 0) else 0
theorem w_ai : Cond.arrayClass .int ∈ gtb := gm (by decide +kernel) (by decide +kernel)
theorem w_ab : Cond.arrayClass .byte ∈ gtb := gm (by decide +kernel) (by decide +kernel)
theorem w_al : Cond.arrayClass .long ∈ gtb := gm (by decide +kernel) (by decide +kernel)
theorem w_oi : Cond.instanceMethod Lib.objectInit ∈ gtb := gm (by decide +kernel) (by decide +kernel)
theorem w_oc : Cond.code Lib.objectInit ⟨#[0xb1]⟩ 1 none ∈ gtb := gm (by decide +kernel) (by decide +kernel)
def m_X9_init : MD := (yX9_init, cX9_init, 1, none, 1, 12, 1, 400)
theorem cki_X9 : cki m_X9_init 0 := ⟨gm (by decide +kernel) (by decide +kernel), gm (by decide +kernel) (by decide +kernel), gm (by decide +kernel) (by decide +kernel), rfl, rfl, by decide, by decide, by decide +kernel⟩
abbrev bk_X9 (w : TG) (n : Nat) : List va_E := .inr (9, [.ref (wB w + (n + 1)), .int 0, .int 0, .int 0, .int 0]) :: [.inl (w.2.1.1, 400, .inl (fun _ => 0))]
theorem ck_X9 (w : TG) (es : List va_E) (n : Nat) (hn : es.length = n) : MKX m_X9_init w [.ref (wB w + n)] (es ++ [.inr (9, [.null, .int 0, .int 0, .int 0, .int 0])]) (es ++ bk_X9 w n) false := by
  subst hn
  refine C_methX (by decide) (Nat.le_of_ble_eq_true rfl) (by simp [Value.category]) rfl (fun g hi _ => ?_)
  show VC m_X9_init w g 0 0 _ 0 [some (.ref (wB w + es.length))] [] _
  refine C_aload_n dX9_init_0 (i := 0) rfl rfl ?_
  refine C_obj (own := RX9) rfl (gm (by decide +kernel) (by decide +kernel)) w_oi w_oc dX9_init_1 (Nat.le_of_ble_eq_true rfl) (Nat.le_of_ble_eq_true rfl) ?_
  refine C_aload_n dX9_init_4 (i := 0) rfl rfl ?_
  refine C_sipush dX9_init_5 (v := 400) (by decide +kernel) ?_
  refine K_newi w_ai dX9_init_8 (by decide) (N := 400) (by decide +kernel) (by omega) (Nat.le_of_ble_eq_true rfl) (Nat.le_of_ble_eq_true rfl) (q := 1) rfl ?_
  refine K_putF hi rfl in_9 tyX9 tyX9_ok nmX9 rfl (k := 0) (by decide) (gm (by decide +kernel) (by decide +kernel)) rfl rfl (tyX9_ok 0 (by decide)) rfl rfl (Nat.le_of_ble_eq_true rfl) dX9_init_10 ?_
  exact C_ret dX9_init_13 rfl (Nat.le_of_ble_eq_true rfl) (Nat.le_of_ble_eq_true rfl)
def m_X4_init : MD := (yX4_init, cX4_init, 1, none, 1, 12, 8, 284)
theorem cki_X4 : cki m_X4_init 0 := ⟨gm (by decide +kernel) (by decide +kernel), gm (by decide +kernel) (by decide +kernel), gm (by decide +kernel) (by decide +kernel), rfl, rfl, by decide, by decide, by decide +kernel⟩
abbrev bk_X4 (w : TG) (n : Nat) : List va_E := .inr (4, [.int 0, .int 0, .int 0, .int 5, .int 100, .int 0, .int 1, .int 0, .ref (wB w + (n + 1)), .ref (wB w + (n + 2)), .ref (wB w + (n + 3)), .ref (wB w + (n + 4)), .ref (wB w + (n + 5)), .ref (wB w + (n + 6)), .ref (wB w + (n + 7)), .ref (wB w + (n + 8))]) :: [.inl (w.2.1.1, 8, .inl (fun _ => 0)), .inl (w.2.1.1, 8, .inl (fun _ => 0)), .inl (w.2.1.1, 8, .inl (fun _ => 0)), .inl (w.2.1.1, 8, .inl (fun _ => 0)), .inl (w.2.1.1, 64, .inl (fun _ => 0)), .inl (w.2.1.1, 64, .inl (fun _ => 0)), .inl (w.2.1.1, 64, .inl (fun _ => 0)), .inl (w.2.1.1, 60, .inl (fun _ => 0))]
theorem ck_X4 (w : TG) (es : List va_E) (n : Nat) (hn : es.length = n) : MKX m_X4_init w [.ref (wB w + n)] (es ++ [.inr (4, [.int 0, .int 0, .int 0, .int 0, .int 0, .int 0, .int 0, .int 0, .null, .null, .null, .null, .null, .null, .null, .null])]) (es ++ bk_X4 w n) false := by
  subst hn
  refine C_methX (by decide) (Nat.le_of_ble_eq_true rfl) (by simp [Value.category]) rfl (fun g hi _ => ?_)
  show VC m_X4_init w g 0 0 _ 0 [some (.ref (wB w + es.length))] [] _
  refine C_aload_n dX4_init_0 (i := 0) rfl rfl ?_
  refine C_obj (own := RX4) rfl (gm (by decide +kernel) (by decide +kernel)) w_oi w_oc dX4_init_1 (Nat.le_of_ble_eq_true rfl) (Nat.le_of_ble_eq_true rfl) ?_
  refine C_aload_n dX4_init_4 (i := 0) rfl rfl ?_
  refine C_iconst dX4_init_5 (v := 5) (by decide +kernel) ?_
  refine K_put rfl in_4 tyX4 tyX4_ok nmX4 rfl (k := 3) (by decide) (gm (by decide +kernel) (by decide +kernel)) rfl (tyX4_ok 3 (by decide)) rfl rfl (Nat.le_of_ble_eq_true rfl) dX4_init_6 ?_
  refine C_aload_n dX4_init_9 (i := 0) rfl rfl ?_
  refine C_bipush dX4_init_10 (v := 100) (by decide +kernel) ?_
  refine K_put rfl in_4 tyX4 tyX4_ok nmX4 rfl (k := 4) (by decide) (gm (by decide +kernel) (by decide +kernel)) rfl (tyX4_ok 4 (by decide)) rfl rfl (Nat.le_of_ble_eq_true rfl) dX4_init_12 ?_
  refine C_aload_n dX4_init_15 (i := 0) rfl rfl ?_
  refine C_iconst dX4_init_16 (v := 1) (by decide +kernel) ?_
  refine K_put rfl in_4 tyX4 tyX4_ok nmX4 rfl (k := 6) (by decide) (gm (by decide +kernel) (by decide +kernel)) rfl (tyX4_ok 6 (by decide)) rfl rfl (Nat.le_of_ble_eq_true rfl) dX4_init_17 ?_
  refine C_aload_n dX4_init_20 (i := 0) rfl rfl ?_
  refine C_bipush dX4_init_21 (v := 8) (by decide +kernel) ?_
  refine K_newi w_ai dX4_init_23 (by decide) (N := 8) (by decide +kernel) (by omega) (Nat.le_of_ble_eq_true rfl) (Nat.le_of_ble_eq_true rfl) (q := 1) rfl ?_
  refine K_putF hi rfl in_4 tyX4 tyX4_ok nmX4 rfl (k := 8) (by decide) (gm (by decide +kernel) (by decide +kernel)) rfl rfl (tyX4_ok 8 (by decide)) rfl rfl (Nat.le_of_ble_eq_true rfl) dX4_init_25 ?_
  refine C_aload_n dX4_init_28 (i := 0) rfl rfl ?_
  refine C_bipush dX4_init_29 (v := 8) (by decide +kernel) ?_
  refine K_newi w_ai dX4_init_31 (by decide) (N := 8) (by decide +kernel) (by omega) (Nat.le_of_ble_eq_true rfl) (Nat.le_of_ble_eq_true rfl) (q := 2) rfl ?_
  refine K_putF hi rfl in_4 tyX4 tyX4_ok nmX4 rfl (k := 9) (by decide) (gm (by decide +kernel) (by decide +kernel)) rfl rfl (tyX4_ok 9 (by decide)) rfl rfl (Nat.le_of_ble_eq_true rfl) dX4_init_33 ?_
  refine C_aload_n dX4_init_36 (i := 0) rfl rfl ?_
  refine C_bipush dX4_init_37 (v := 8) (by decide +kernel) ?_
  refine K_newi w_ai dX4_init_39 (by decide) (N := 8) (by decide +kernel) (by omega) (Nat.le_of_ble_eq_true rfl) (Nat.le_of_ble_eq_true rfl) (q := 3) rfl ?_
  refine K_putF hi rfl in_4 tyX4 tyX4_ok nmX4 rfl (k := 10) (by decide) (gm (by decide +kernel) (by decide +kernel)) rfl rfl (tyX4_ok 10 (by decide)) rfl rfl (Nat.le_of_ble_eq_true rfl) dX4_init_41 ?_
  refine C_aload_n dX4_init_44 (i := 0) rfl rfl ?_
  refine C_bipush dX4_init_45 (v := 8) (by decide +kernel) ?_
  refine K_newi w_ai dX4_init_47 (by decide) (N := 8) (by decide +kernel) (by omega) (Nat.le_of_ble_eq_true rfl) (Nat.le_of_ble_eq_true rfl) (q := 4) rfl ?_
  refine K_putF hi rfl in_4 tyX4 tyX4_ok nmX4 rfl (k := 11) (by decide) (gm (by decide +kernel) (by decide +kernel)) rfl rfl (tyX4_ok 11 (by decide)) rfl rfl (Nat.le_of_ble_eq_true rfl) dX4_init_49 ?_
  refine C_aload_n dX4_init_52 (i := 0) rfl rfl ?_
  refine C_bipush dX4_init_53 (v := 64) (by decide +kernel) ?_
  refine K_newi w_ai dX4_init_55 (by decide) (N := 64) (by decide +kernel) (by omega) (Nat.le_of_ble_eq_true rfl) (Nat.le_of_ble_eq_true rfl) (q := 5) rfl ?_
  refine K_putF hi rfl in_4 tyX4 tyX4_ok nmX4 rfl (k := 12) (by decide) (gm (by decide +kernel) (by decide +kernel)) rfl rfl (tyX4_ok 12 (by decide)) rfl rfl (Nat.le_of_ble_eq_true rfl) dX4_init_57 ?_
  refine C_aload_n dX4_init_60 (i := 0) rfl rfl ?_
  refine C_bipush dX4_init_61 (v := 64) (by decide +kernel) ?_
  refine K_newi w_ai dX4_init_63 (by decide) (N := 64) (by decide +kernel) (by omega) (Nat.le_of_ble_eq_true rfl) (Nat.le_of_ble_eq_true rfl) (q := 6) rfl ?_
  refine K_putF hi rfl in_4 tyX4 tyX4_ok nmX4 rfl (k := 13) (by decide) (gm (by decide +kernel) (by decide +kernel)) rfl rfl (tyX4_ok 13 (by decide)) rfl rfl (Nat.le_of_ble_eq_true rfl) dX4_init_65 ?_
  refine C_aload_n dX4_init_68 (i := 0) rfl rfl ?_
  refine C_bipush dX4_init_69 (v := 64) (by decide +kernel) ?_
  refine K_newi w_ai dX4_init_71 (by decide) (N := 64) (by decide +kernel) (by omega) (Nat.le_of_ble_eq_true rfl) (Nat.le_of_ble_eq_true rfl) (q := 7) rfl ?_
  refine K_putF hi rfl in_4 tyX4 tyX4_ok nmX4 rfl (k := 14) (by decide) (gm (by decide +kernel) (by decide +kernel)) rfl rfl (tyX4_ok 14 (by decide)) rfl rfl (Nat.le_of_ble_eq_true rfl) dX4_init_73 ?_
  refine C_aload_n dX4_init_76 (i := 0) rfl rfl ?_
  refine C_bipush dX4_init_77 (v := 60) (by decide +kernel) ?_
  refine K_newi w_ai dX4_init_79 (by decide) (N := 60) (by decide +kernel) (by omega) (Nat.le_of_ble_eq_true rfl) (Nat.le_of_ble_eq_true rfl) (q := 8) rfl ?_
  refine K_putF hi rfl in_4 tyX4 tyX4_ok nmX4 rfl (k := 15) (by decide) (gm (by decide +kernel) (by decide +kernel)) rfl rfl (tyX4_ok 15 (by decide)) rfl rfl (Nat.le_of_ble_eq_true rfl) dX4_init_81 ?_
  exact C_ret dX4_init_84 rfl (Nat.le_of_ble_eq_true rfl) (Nat.le_of_ble_eq_true rfl)
def m_X6_init : MD := (yX6_init, cX6_init, 1, none, 1, 12, 6, 476)
theorem cki_X6 : cki m_X6_init 0 := ⟨gm (by decide +kernel) (by decide +kernel), gm (by decide +kernel) (by decide +kernel), gm (by decide +kernel) (by decide +kernel), rfl, rfl, by decide, by decide, by decide +kernel⟩
abbrev bk_X6 (w : TG) (n : Nat) : List va_E := .inr (6, [.int (-1), .int 0, .ref (wB w + (n + 1)), .ref (wB w + (n + 2)), .ref (wB w + (n + 3)), .ref (wB w + (n + 4)), .ref (wB w + (n + 5)), .ref (wB w + (n + 6))]) :: [.inl (w.2.1.1, 12, .inl (fun _ => 0)), .inl (w.2.1.1, 12, .inl (fun _ => 0)), .inl (w.2.1.1, 12, .inl (fun _ => 0)), .inl (w.2.1.1, 400, .inl (fun _ => 0)), .inl (w.2.1.1, 8, .inl (fun _ => 0)), .inl (w.2.1.1, 32, .inl (fun _ => 0))]
theorem ck_X6 (w : TG) (es : List va_E) (n : Nat) (hn : es.length = n) : MKX m_X6_init w [.ref (wB w + n)] (es ++ [.inr (6, [.int 0, .int 0, .null, .null, .null, .null, .null, .null])]) (es ++ bk_X6 w n) false := by
  subst hn
  refine C_methX (by decide) (Nat.le_of_ble_eq_true rfl) (by simp [Value.category]) rfl (fun g hi _ => ?_)
  show VC m_X6_init w g 0 0 _ 0 [some (.ref (wB w + es.length))] [] _
  refine C_aload_n dX6_init_0 (i := 0) rfl rfl ?_
  refine C_obj (own := RX6) rfl (gm (by decide +kernel) (by decide +kernel)) w_oi w_oc dX6_init_1 (Nat.le_of_ble_eq_true rfl) (Nat.le_of_ble_eq_true rfl) ?_
  refine C_aload_n dX6_init_4 (i := 0) rfl rfl ?_
  refine C_iconst dX6_init_5 (v := (-1)) (by decide +kernel) ?_
  refine K_put rfl in_6 tyX6 tyX6_ok nmX6 rfl (k := 0) (by decide) (gm (by decide +kernel) (by decide +kernel)) rfl (tyX6_ok 0 (by decide)) rfl rfl (Nat.le_of_ble_eq_true rfl) dX6_init_6 ?_
  refine C_aload_n dX6_init_9 (i := 0) rfl rfl ?_
  refine C_bipush dX6_init_10 (v := 12) (by decide +kernel) ?_
  refine K_newi w_ai dX6_init_12 (by decide) (N := 12) (by decide +kernel) (by omega) (Nat.le_of_ble_eq_true rfl) (Nat.le_of_ble_eq_true rfl) (q := 1) rfl ?_
  refine K_putF hi rfl in_6 tyX6 tyX6_ok nmX6 rfl (k := 2) (by decide) (gm (by decide +kernel) (by decide +kernel)) rfl rfl (tyX6_ok 2 (by decide)) rfl rfl (Nat.le_of_ble_eq_true rfl) dX6_init_14 ?_
  refine C_aload_n dX6_init_17 (i := 0) rfl rfl ?_
  refine C_bipush dX6_init_18 (v := 12) (by decide +kernel) ?_
  refine K_newi w_ai dX6_init_20 (by decide) (N := 12) (by decide +kernel) (by omega) (Nat.le_of_ble_eq_true rfl) (Nat.le_of_ble_eq_true rfl) (q := 2) rfl ?_
  refine K_putF hi rfl in_6 tyX6 tyX6_ok nmX6 rfl (k := 3) (by decide) (gm (by decide +kernel) (by decide +kernel)) rfl rfl (tyX6_ok 3 (by decide)) rfl rfl (Nat.le_of_ble_eq_true rfl) dX6_init_22 ?_
  refine C_aload_n dX6_init_25 (i := 0) rfl rfl ?_
  refine C_bipush dX6_init_26 (v := 12) (by decide +kernel) ?_
  refine K_newi w_ai dX6_init_28 (by decide) (N := 12) (by decide +kernel) (by omega) (Nat.le_of_ble_eq_true rfl) (Nat.le_of_ble_eq_true rfl) (q := 3) rfl ?_
  refine K_putF hi rfl in_6 tyX6 tyX6_ok nmX6 rfl (k := 4) (by decide) (gm (by decide +kernel) (by decide +kernel)) rfl rfl (tyX6_ok 4 (by decide)) rfl rfl (Nat.le_of_ble_eq_true rfl) dX6_init_30 ?_
  refine C_aload_n dX6_init_33 (i := 0) rfl rfl ?_
  refine C_sipush dX6_init_34 (v := 400) (by decide +kernel) ?_
  refine K_newi w_ai dX6_init_37 (by decide) (N := 400) (by decide +kernel) (by omega) (Nat.le_of_ble_eq_true rfl) (Nat.le_of_ble_eq_true rfl) (q := 4) rfl ?_
  refine K_putF hi rfl in_6 tyX6 tyX6_ok nmX6 rfl (k := 5) (by decide) (gm (by decide +kernel) (by decide +kernel)) rfl rfl (tyX6_ok 5 (by decide)) rfl rfl (Nat.le_of_ble_eq_true rfl) dX6_init_39 ?_
  refine C_aload_n dX6_init_42 (i := 0) rfl rfl ?_
  refine C_bipush dX6_init_43 (v := 8) (by decide +kernel) ?_
  refine K_newi w_ai dX6_init_45 (by decide) (N := 8) (by decide +kernel) (by omega) (Nat.le_of_ble_eq_true rfl) (Nat.le_of_ble_eq_true rfl) (q := 5) rfl ?_
  refine K_putF hi rfl in_6 tyX6 tyX6_ok nmX6 rfl (k := 6) (by decide) (gm (by decide +kernel) (by decide +kernel)) rfl rfl (tyX6_ok 6 (by decide)) rfl rfl (Nat.le_of_ble_eq_true rfl) dX6_init_47 ?_
  refine C_aload_n dX6_init_50 (i := 0) rfl rfl ?_
  refine C_bipush dX6_init_51 (v := 32) (by decide +kernel) ?_
  refine K_newi w_ai dX6_init_53 (by decide) (N := 32) (by decide +kernel) (by omega) (Nat.le_of_ble_eq_true rfl) (Nat.le_of_ble_eq_true rfl) (q := 6) rfl ?_
  refine K_putF hi rfl in_6 tyX6 tyX6_ok nmX6 rfl (k := 7) (by decide) (gm (by decide +kernel) (by decide +kernel)) rfl rfl (tyX6_ok 7 (by decide)) rfl rfl (Nat.le_of_ble_eq_true rfl) dX6_init_55 ?_
  exact C_ret dX6_init_58 rfl (Nat.le_of_ble_eq_true rfl) (Nat.le_of_ble_eq_true rfl)
def m_X5_init : MD := (yX5_init, cX5_init, 2, none, 1, 12, 0, 0)
theorem cki_X5 : cki m_X5_init 1 := ⟨gm (by decide +kernel) (by decide +kernel), gm (by decide +kernel) (by decide +kernel), gm (by decide +kernel) (by decide +kernel), rfl, rfl, by decide, by decide, by decide +kernel⟩
abbrev bk_X5 (w : TG) (n a1 : Nat) : List va_E := .inr (5, [.ref a1]) :: []
theorem ck_X5 (w : TG) (es : List va_E) (n a1 : Nat) (hn : es.length = n) : MKX m_X5_init w [.ref (wB w + n), .ref a1] (es ++ [.inr (5, [.null])]) (es ++ bk_X5 w n a1) false := by
  subst hn
  refine C_methX (by decide) (Nat.le_of_ble_eq_true rfl) (by simp [Value.category]) rfl (fun g hi _ => ?_)
  show VC m_X5_init w g 0 0 _ 0 [some (.ref (wB w + es.length)), some (.ref a1)] [] _
  refine C_aload_n dX5_init_0 (i := 0) rfl rfl ?_
  refine C_obj (own := RX5) rfl (gm (by decide +kernel) (by decide +kernel)) w_oi w_oc dX5_init_1 (Nat.le_of_ble_eq_true rfl) (Nat.le_of_ble_eq_true rfl) ?_
  refine C_aload_n dX5_init_4 (i := 0) rfl rfl ?_
  refine C_aload_n dX5_init_5 (i := 1) rfl rfl ?_
  refine K_putF hi rfl in_5 tyX5 tyX5_ok nmX5 rfl (k := 0) (by decide) (gm (by decide +kernel) (by decide +kernel)) rfl rfl (tyX5_ok 0 (by decide)) rfl rfl (Nat.le_of_ble_eq_true rfl) dX5_init_6 ?_
  exact C_ret dX5_init_9 rfl (Nat.le_of_ble_eq_true rfl) (Nat.le_of_ble_eq_true rfl)
def m_X7_init : MD := (yX7_init, cX7_init, 2, none, 1, 12, 0, 0)
theorem cki_X7 : cki m_X7_init 1 := ⟨gm (by decide +kernel) (by decide +kernel), gm (by decide +kernel) (by decide +kernel), gm (by decide +kernel) (by decide +kernel), rfl, rfl, by decide, by decide, by decide +kernel⟩
abbrev bk_X7 (w : TG) (n a1 : Nat) : List va_E := .inr (7, [.ref a1]) :: []
theorem ck_X7 (w : TG) (es : List va_E) (n a1 : Nat) (hn : es.length = n) : MKX m_X7_init w [.ref (wB w + n), .ref a1] (es ++ [.inr (7, [.null])]) (es ++ bk_X7 w n a1) false := by
  subst hn
  refine C_methX (by decide) (Nat.le_of_ble_eq_true rfl) (by simp [Value.category]) rfl (fun g hi _ => ?_)
  show VC m_X7_init w g 0 0 _ 0 [some (.ref (wB w + es.length)), some (.ref a1)] [] _
  refine C_aload_n dX7_init_0 (i := 0) rfl rfl ?_
  refine C_obj (own := RX7) rfl (gm (by decide +kernel) (by decide +kernel)) w_oi w_oc dX7_init_1 (Nat.le_of_ble_eq_true rfl) (Nat.le_of_ble_eq_true rfl) ?_
  refine C_aload_n dX7_init_4 (i := 0) rfl rfl ?_
  refine C_aload_n dX7_init_5 (i := 1) rfl rfl ?_
  refine K_putF hi rfl in_7 tyX7 tyX7_ok nmX7 rfl (k := 0) (by decide) (gm (by decide +kernel) (by decide +kernel)) rfl rfl (tyX7_ok 0 (by decide)) rfl rfl (Nat.le_of_ble_eq_true rfl) dX7_init_6 ?_
  exact C_ret dX7_init_9 rfl (Nat.le_of_ble_eq_true rfl) (Nat.le_of_ble_eq_true rfl)
def m_X1_init : MD := (yX1_init, cX1_init, 3, none, 1, 12, 1, 8)
theorem cki_X1 : cki m_X1_init 2 := ⟨gm (by decide +kernel) (by decide +kernel), gm (by decide +kernel) (by decide +kernel), gm (by decide +kernel) (by decide +kernel), rfl, rfl, by decide, by decide, by decide +kernel⟩
abbrev bk_X1 (w : TG) (n a1 a2 : Nat) : List va_E := .inr (1, [.ref a1, .ref a2, .ref (wB w + (n + 1))]) :: [.inl (w.2.1.1, 8, .inl (fun _ => 0))]
theorem ck_X1 (w : TG) (es : List va_E) (n a1 a2 : Nat) (hn : es.length = n) : MKX m_X1_init w [.ref (wB w + n), .ref a1, .ref a2] (es ++ [.inr (1, [.null, .null, .null])]) (es ++ bk_X1 w n a1 a2) false := by
  subst hn
  refine C_methX (by decide) (Nat.le_of_ble_eq_true rfl) (by simp [Value.category]) rfl (fun g hi _ => ?_)
  show VC m_X1_init w g 0 0 _ 0 [some (.ref (wB w + es.length)), some (.ref a1), some (.ref a2)] [] _
  refine C_aload_n dX1_init_0 (i := 0) rfl rfl ?_
  refine C_obj (own := RX1) rfl (gm (by decide +kernel) (by decide +kernel)) w_oi w_oc dX1_init_1 (Nat.le_of_ble_eq_true rfl) (Nat.le_of_ble_eq_true rfl) ?_
  refine C_aload_n dX1_init_4 (i := 0) rfl rfl ?_
  refine C_bipush dX1_init_5 (v := 8) (by decide +kernel) ?_
  refine K_newi w_ai dX1_init_7 (by decide) (N := 8) (by decide +kernel) (by omega) (Nat.le_of_ble_eq_true rfl) (Nat.le_of_ble_eq_true rfl) (q := 1) rfl ?_
  refine K_putF hi rfl in_1 tyX1 tyX1_ok nmX1 rfl (k := 2) (by decide) (gm (by decide +kernel) (by decide +kernel)) rfl rfl (tyX1_ok 2 (by decide)) rfl rfl (Nat.le_of_ble_eq_true rfl) dX1_init_9 ?_
  refine C_aload_n dX1_init_12 (i := 0) rfl rfl ?_
  refine C_aload_n dX1_init_13 (i := 1) rfl rfl ?_
  refine K_putF hi rfl in_1 tyX1 tyX1_ok nmX1 rfl (k := 0) (by decide) (gm (by decide +kernel) (by decide +kernel)) rfl rfl (tyX1_ok 0 (by decide)) rfl rfl (Nat.le_of_ble_eq_true rfl) dX1_init_14 ?_
  refine C_aload_n dX1_init_17 (i := 0) rfl rfl ?_
  refine C_aload_n dX1_init_18 (i := 2) rfl rfl ?_
  refine K_putF hi rfl in_1 tyX1 tyX1_ok nmX1 rfl (k := 1) (by decide) (gm (by decide +kernel) (by decide +kernel)) rfl rfl (tyX1_ok 1 (by decide)) rfl rfl (Nat.le_of_ble_eq_true rfl) dX1_init_19 ?_
  exact C_ret dX1_init_22 rfl (Nat.le_of_ble_eq_true rfl) (Nat.le_of_ble_eq_true rfl)
def m_X10_init : MD := (yX10_init, cX10_init, 2, none, 1, 12, 0, 0)
theorem cki_X10 : cki m_X10_init 1 := ⟨gm (by decide +kernel) (by decide +kernel), gm (by decide +kernel) (by decide +kernel), gm (by decide +kernel) (by decide +kernel), rfl, rfl, by decide, by decide, by decide +kernel⟩
abbrev bk_X10 (w : TG) (n a1 : Nat) : List va_E := .inr (10, [.ref a1]) :: []
theorem ck_X10 (w : TG) (es : List va_E) (n a1 : Nat) (hn : es.length = n) : MKX m_X10_init w [.ref (wB w + n), .ref a1] (es ++ [.inr (10, [.null])]) (es ++ bk_X10 w n a1) false := by
  subst hn
  refine C_methX (by decide) (Nat.le_of_ble_eq_true rfl) (by simp [Value.category]) rfl (fun g hi _ => ?_)
  show VC m_X10_init w g 0 0 _ 0 [some (.ref (wB w + es.length)), some (.ref a1)] [] _
  refine C_aload_n dX10_init_0 (i := 0) rfl rfl ?_
  refine C_obj (own := RX10) rfl (gm (by decide +kernel) (by decide +kernel)) w_oi w_oc dX10_init_1 (Nat.le_of_ble_eq_true rfl) (Nat.le_of_ble_eq_true rfl) ?_
  refine C_aload_n dX10_init_4 (i := 0) rfl rfl ?_
  refine C_aload_n dX10_init_5 (i := 1) rfl rfl ?_
  refine K_putF hi rfl in_10 tyX10 tyX10_ok nmX10 rfl (k := 0) (by decide) (gm (by decide +kernel) (by decide +kernel)) rfl rfl (tyX10_ok 0 (by decide)) rfl rfl (Nat.le_of_ble_eq_true rfl) dX10_init_6 ?_
  exact C_ret dX10_init_9 rfl (Nat.le_of_ble_eq_true rfl) (Nat.le_of_ble_eq_true rfl)
def m_X8_init : MD := (yX8_init, cX8_init, 2, none, 1, 12, 2, 16)
theorem cki_X8 : cki m_X8_init 1 := ⟨gm (by decide +kernel) (by decide +kernel), gm (by decide +kernel) (by decide +kernel), gm (by decide +kernel) (by decide +kernel), rfl, rfl, by decide, by decide, by decide +kernel⟩
abbrev bk_X8 (w : TG) (n a1 : Nat) : List va_E := .inr (8, [.ref a1, .ref (wB w + (n + 1)), .ref (wB w + (n + 2)), .int 0]) :: [.inl (w.2.1.1, 8, .inl (fun _ => 0)), .inl (w.2.1.1, 8, .inl (fun _ => 0))]
theorem ck_X8 (w : TG) (es : List va_E) (n a1 : Nat) (hn : es.length = n) : MKX m_X8_init w [.ref (wB w + n), .ref a1] (es ++ [.inr (8, [.null, .null, .null, .int 0])]) (es ++ bk_X8 w n a1) false := by
  subst hn
  refine C_methX (by decide) (Nat.le_of_ble_eq_true rfl) (by simp [Value.category]) rfl (fun g hi _ => ?_)
  show VC m_X8_init w g 0 0 _ 0 [some (.ref (wB w + es.length)), some (.ref a1)] [] _
  refine C_aload_n dX8_init_0 (i := 0) rfl rfl ?_
  refine C_obj (own := RX8) rfl (gm (by decide +kernel) (by decide +kernel)) w_oi w_oc dX8_init_1 (Nat.le_of_ble_eq_true rfl) (Nat.le_of_ble_eq_true rfl) ?_
  refine C_aload_n dX8_init_4 (i := 0) rfl rfl ?_
  refine C_bipush dX8_init_5 (v := 8) (by decide +kernel) ?_
  refine K_newi w_ai dX8_init_7 (by decide) (N := 8) (by decide +kernel) (by omega) (Nat.le_of_ble_eq_true rfl) (Nat.le_of_ble_eq_true rfl) (q := 1) rfl ?_
  refine K_putF hi rfl in_8 tyX8 tyX8_ok nmX8 rfl (k := 1) (by decide) (gm (by decide +kernel) (by decide +kernel)) rfl rfl (tyX8_ok 1 (by decide)) rfl rfl (Nat.le_of_ble_eq_true rfl) dX8_init_9 ?_
  refine C_aload_n dX8_init_12 (i := 0) rfl rfl ?_
  refine C_bipush dX8_init_13 (v := 8) (by decide +kernel) ?_
  refine K_newi w_ai dX8_init_15 (by decide) (N := 8) (by decide +kernel) (by omega) (Nat.le_of_ble_eq_true rfl) (Nat.le_of_ble_eq_true rfl) (q := 2) rfl ?_
  refine K_putF hi rfl in_8 tyX8 tyX8_ok nmX8 rfl (k := 2) (by decide) (gm (by decide +kernel) (by decide +kernel)) rfl rfl (tyX8_ok 2 (by decide)) rfl rfl (Nat.le_of_ble_eq_true rfl) dX8_init_17 ?_
  refine C_aload_n dX8_init_20 (i := 0) rfl rfl ?_
  refine C_aload_n dX8_init_21 (i := 1) rfl rfl ?_
  refine K_putF hi rfl in_8 tyX8 tyX8_ok nmX8 rfl (k := 0) (by decide) (gm (by decide +kernel) (by decide +kernel)) rfl rfl (tyX8_ok 0 (by decide)) rfl rfl (Nat.le_of_ble_eq_true rfl) dX8_init_22 ?_
  exact C_ret dX8_init_25 rfl (Nat.le_of_ble_eq_true rfl) (Nat.le_of_ble_eq_true rfl)
def m_X3_init : MD := (yX3_init, cX3_init, 2, none, 1, 12, 0, 0)
theorem cki_X3 : cki m_X3_init 1 := ⟨gm (by decide +kernel) (by decide +kernel), gm (by decide +kernel) (by decide +kernel), gm (by decide +kernel) (by decide +kernel), rfl, rfl, by decide, by decide, by decide +kernel⟩
abbrev bk_X3 (w : TG) (n a1 : Nat) : List va_E := .inr (3, [.ref a1]) :: []
theorem ck_X3 (w : TG) (es : List va_E) (n a1 : Nat) (hn : es.length = n) : MKX m_X3_init w [.ref (wB w + n), .ref a1] (es ++ [.inr (3, [.null])]) (es ++ bk_X3 w n a1) false := by
  subst hn
  refine C_methX (by decide) (Nat.le_of_ble_eq_true rfl) (by simp [Value.category]) rfl (fun g hi _ => ?_)
  show VC m_X3_init w g 0 0 _ 0 [some (.ref (wB w + es.length)), some (.ref a1)] [] _
  refine C_aload_n dX3_init_0 (i := 0) rfl rfl ?_
  refine C_obj (own := RX3) rfl (gm (by decide +kernel) (by decide +kernel)) w_oi w_oc dX3_init_1 (Nat.le_of_ble_eq_true rfl) (Nat.le_of_ble_eq_true rfl) ?_
  refine C_aload_n dX3_init_4 (i := 0) rfl rfl ?_
  refine C_aload_n dX3_init_5 (i := 1) rfl rfl ?_
  refine K_putF hi rfl in_3 tyX3 tyX3_ok nmX3 rfl (k := 0) (by decide) (gm (by decide +kernel) (by decide +kernel)) rfl rfl (tyX3_ok 0 (by decide)) rfl rfl (Nat.le_of_ble_eq_true rfl) dX3_init_6 ?_
  exact C_ret dX3_init_9 rfl (Nat.le_of_ble_eq_true rfl) (Nat.le_of_ble_eq_true rfl)
def m_X2_init : MD := (yX2_init, cX2_init, 3, none, 1, 12, 1, 8)
theorem cki_X2 : cki m_X2_init 2 := ⟨gm (by decide +kernel) (by decide +kernel), gm (by decide +kernel) (by decide +kernel), gm (by decide +kernel) (by decide +kernel), rfl, rfl, by decide, by decide, by decide +kernel⟩
abbrev bk_X2 (w : TG) (n a1 a2 : Nat) : List va_E := .inr (2, [.ref a1, .ref a2, .ref (wB w + (n + 1)), .int 0, .int 0]) :: [.inl (w.2.1.1, 8, .inl (fun _ => 0))]
theorem ck_X2 (w : TG) (es : List va_E) (n a1 a2 : Nat) (hn : es.length = n) : MKX m_X2_init w [.ref (wB w + n), .ref a1, .ref a2] (es ++ [.inr (2, [.null, .null, .null, .int 0, .int 0])]) (es ++ bk_X2 w n a1 a2) false := by
  subst hn
  refine C_methX (by decide) (Nat.le_of_ble_eq_true rfl) (by simp [Value.category]) rfl (fun g hi _ => ?_)
  show VC m_X2_init w g 0 0 _ 0 [some (.ref (wB w + es.length)), some (.ref a1), some (.ref a2)] [] _
  refine C_aload_n dX2_init_0 (i := 0) rfl rfl ?_
  refine C_obj (own := RX2) rfl (gm (by decide +kernel) (by decide +kernel)) w_oi w_oc dX2_init_1 (Nat.le_of_ble_eq_true rfl) (Nat.le_of_ble_eq_true rfl) ?_
  refine C_aload_n dX2_init_4 (i := 0) rfl rfl ?_
  refine C_bipush dX2_init_5 (v := 8) (by decide +kernel) ?_
  refine K_newi w_ai dX2_init_7 (by decide) (N := 8) (by decide +kernel) (by omega) (Nat.le_of_ble_eq_true rfl) (Nat.le_of_ble_eq_true rfl) (q := 1) rfl ?_
  refine K_putF hi rfl in_2 tyX2 tyX2_ok nmX2 rfl (k := 2) (by decide) (gm (by decide +kernel) (by decide +kernel)) rfl rfl (tyX2_ok 2 (by decide)) rfl rfl (Nat.le_of_ble_eq_true rfl) dX2_init_9 ?_
  refine C_aload_n dX2_init_12 (i := 0) rfl rfl ?_
  refine C_aload_n dX2_init_13 (i := 1) rfl rfl ?_
  refine K_putF hi rfl in_2 tyX2 tyX2_ok nmX2 rfl (k := 0) (by decide) (gm (by decide +kernel) (by decide +kernel)) rfl rfl (tyX2_ok 0 (by decide)) rfl rfl (Nat.le_of_ble_eq_true rfl) dX2_init_14 ?_
  refine C_aload_n dX2_init_17 (i := 0) rfl rfl ?_
  refine C_aload_n dX2_init_18 (i := 2) rfl rfl ?_
  refine K_putF hi rfl in_2 tyX2 tyX2_ok nmX2 rfl (k := 1) (by decide) (gm (by decide +kernel) (by decide +kernel)) rfl rfl (tyX2_ok 1 (by decide)) rfl rfl (Nat.le_of_ble_eq_true rfl) dX2_init_19 ?_
  exact C_ret dX2_init_22 rfl (Nat.le_of_ble_eq_true rfl) (Nat.le_of_ble_eq_true rfl)
def m_X12_init : MD := (yX12_init, cX12_init, 1, none, 1, 12, 11, 12058)
theorem cki_X12 : cki m_X12_init 0 := ⟨gm (by decide +kernel) (by decide +kernel), gm (by decide +kernel) (by decide +kernel), gm (by decide +kernel) (by decide +kernel), rfl, rfl, by decide, by decide, by decide +kernel⟩
abbrev bk_X12 (w : TG) (n : Nat) : List va_E := .inr (12, [.int 0, .ref (wB w + (n + 1)), .ref (wB w + (n + 2)), .ref (wB w + (n + 3)), .ref (wB w + (n + 4)), .ref (wB w + (n + 5)), .int 0, .int 0, .ref (wB w + (n + 6)), .int 0, .int 0, .int 0, .int 0, .int 0, .int (-1), .ref (wB w + (n + 7)), .int 0, .ref (wB w + (n + 8)), .int 0, .int 0, .int 0, .int 0, .ref (wB w + (n + 9)), .ref (wB w + (n + 10)), .ref (wB w + (n + 11))]) :: [.inl (w.2.1.1, 2172, .inl (s0 172)), .inl (w.2.1.1, 1323, .inl (fun _ => 0)), .inl (w.2.1.1, 1323, .inl (fun _ => 0)), .inl (w.2.1.1, 474, .inl (fun _ => 0)), .inl (w.2.1.1, 5688, .inl (fun _ => 0)), .inl (w.2.1.2.1, 400, .inl (fun _ => 0)), .inl (w.2.1.1, 5, .inl (fun _ => 0)), .inl (w.2.1.1, 400, .inl (fun _ => 0)), .inl (w.2.1.1, 9, .inl (fun _ => 0)), .inl (w.2.1.1, 8, .inl (fun _ => 0)), .inl (w.2.1.1, 256, .inl (fun _ => 0))]
theorem arr_at1 {es ts : List va_E} {x a : va_E} : (es ++ x :: a :: ts)[es.length + 1]? = some a := by simp
theorem arr_set1 {es ts : List va_E} {x a a' : va_E} : (es ++ x :: a :: ts).set (es.length + 1) a' = es ++ x :: a' :: ts := by simp
theorem K_iast {y : MD} {w : TG} {g : VG} {kc ks : Nat} {Q : State → Prop} {pc : Nat} {vs : List (Option Value)} {rest : List Value} {es ts ts2 : List va_E} {x : va_E} {i v : Int32} {n : Nat} {f : Nat → Int32} (hts : ts = .inl (w.2.1.1, n, .inl f) :: ts2) (hi : inb i n = true) (hd : decode y.2.1 pc = .ok (.iastore, 1)) (kk : VC y w g kc ks Q (pc + 1) vs rest (es ++ x :: .inl (w.2.1.1, n, .inl (upd f i.toNatClampNeg v)) :: ts2)) : VC y w g kc ks Q pc vs (.int v :: .int i :: .ref (wB w + (es.length + 1)) :: rest) (es ++ x :: ts) := by
  subst hts
  refine C_iast (o := es.length + 1) arr_at1 hi hd ?_
  rw [arr_set1]
  exact kk
theorem ck_X12 (w : TG) (es : List va_E) (n : Nat) (hn : es.length = n) : MKX m_X12_init w [.ref (wB w + n)] (es ++ [.inr (12, [.int 0, .null, .null, .null, .null, .null, .int 0, .int 0, .null, .int 0, .int 0, .int 0, .int 0, .int 0, .int 0, .null, .int 0, .null, .int 0, .int 0, .int 0, .int 0, .null, .null, .null])]) (es ++ bk_X12 w n) false := by
  subst hn
  refine C_methX (by decide) (Nat.le_of_ble_eq_true rfl) (by simp [Value.category]) rfl (fun g hi _ => ?_)
  show VC m_X12_init w g 0 0 _ 0 [some (.ref (wB w + es.length))] [] _
  refine C_aload_n dX12_init_0 (i := 0) rfl rfl ?_
  refine C_obj (own := RX12) rfl (gm (by decide +kernel) (by decide +kernel)) w_oi w_oc dX12_init_1 (Nat.le_of_ble_eq_true rfl) (Nat.le_of_ble_eq_true rfl) ?_
  refine C_aload_n dX12_init_4 (i := 0) rfl rfl ?_
  refine C_sipush dX12_init_5 (v := 2172) (by decide +kernel) ?_
  refine K_newi w_ai dX12_init_8 (by decide) (N := 2172) (by decide +kernel) (by omega) (Nat.le_of_ble_eq_true rfl) (Nat.le_of_ble_eq_true rfl) (q := 1) rfl ?_
  refine K_putF hi rfl in_12 tyX12 tyX12_ok nmX12 rfl (k := 1) (by decide) (gm (by decide +kernel) (by decide +kernel)) rfl rfl (tyX12_ok 1 (by decide)) rfl rfl (Nat.le_of_ble_eq_true rfl) dX12_init_10 ?_
  refine C_aload_n dX12_init_13 (i := 0) rfl rfl ?_
  refine C_sipush dX12_init_14 (v := 1323) (by decide +kernel) ?_
  refine K_newi w_ai dX12_init_17 (by decide) (N := 1323) (by decide +kernel) (by omega) (Nat.le_of_ble_eq_true rfl) (Nat.le_of_ble_eq_true rfl) (q := 2) rfl ?_
  refine K_putF hi rfl in_12 tyX12 tyX12_ok nmX12 rfl (k := 2) (by decide) (gm (by decide +kernel) (by decide +kernel)) rfl rfl (tyX12_ok 2 (by decide)) rfl rfl (Nat.le_of_ble_eq_true rfl) dX12_init_19 ?_
  refine C_aload_n dX12_init_22 (i := 0) rfl rfl ?_
  refine C_sipush dX12_init_23 (v := 1323) (by decide +kernel) ?_
  refine K_newi w_ai dX12_init_26 (by decide) (N := 1323) (by decide +kernel) (by omega) (Nat.le_of_ble_eq_true rfl) (Nat.le_of_ble_eq_true rfl) (q := 3) rfl ?_
  refine K_putF hi rfl in_12 tyX12 tyX12_ok nmX12 rfl (k := 3) (by decide) (gm (by decide +kernel) (by decide +kernel)) rfl rfl (tyX12_ok 3 (by decide)) rfl rfl (Nat.le_of_ble_eq_true rfl) dX12_init_28 ?_
  refine C_aload_n dX12_init_31 (i := 0) rfl rfl ?_
  refine C_sipush dX12_init_32 (v := 474) (by decide +kernel) ?_
  refine K_newi w_ai dX12_init_35 (by decide) (N := 474) (by decide +kernel) (by omega) (Nat.le_of_ble_eq_true rfl) (Nat.le_of_ble_eq_true rfl) (q := 4) rfl ?_
  refine K_putF hi rfl in_12 tyX12 tyX12_ok nmX12 rfl (k := 4) (by decide) (gm (by decide +kernel) (by decide +kernel)) rfl rfl (tyX12_ok 4 (by decide)) rfl rfl (Nat.le_of_ble_eq_true rfl) dX12_init_37 ?_
  refine C_aload_n dX12_init_40 (i := 0) rfl rfl ?_
  refine C_sipush dX12_init_41 (v := 5688) (by decide +kernel) ?_
  refine K_newi w_ai dX12_init_44 (by decide) (N := 5688) (by decide +kernel) (by omega) (Nat.le_of_ble_eq_true rfl) (Nat.le_of_ble_eq_true rfl) (q := 5) rfl ?_
  refine K_putF hi rfl in_12 tyX12 tyX12_ok nmX12 rfl (k := 5) (by decide) (gm (by decide +kernel) (by decide +kernel)) rfl rfl (tyX12_ok 5 (by decide)) rfl rfl (Nat.le_of_ble_eq_true rfl) dX12_init_46 ?_
  refine C_aload_n dX12_init_49 (i := 0) rfl rfl ?_
  refine C_sipush dX12_init_50 (v := 400) (by decide +kernel) ?_
  refine K_newb w_ab dX12_init_53 (by decide) (N := 400) (by decide +kernel) (by omega) (Nat.le_of_ble_eq_true rfl) (Nat.le_of_ble_eq_true rfl) (q := 6) rfl ?_
  refine K_putF hi rfl in_12 tyX12 tyX12_ok nmX12 rfl (k := 8) (by decide) (gm (by decide +kernel) (by decide +kernel)) rfl rfl (tyX12_ok 8 (by decide)) rfl rfl (Nat.le_of_ble_eq_true rfl) dX12_init_55 ?_
  refine C_aload_n dX12_init_58 (i := 0) rfl rfl ?_
  refine C_iconst dX12_init_59 (v := (-1)) (by decide +kernel) ?_
  refine K_put rfl in_12 tyX12 tyX12_ok nmX12 rfl (k := 14) (by decide) (gm (by decide +kernel) (by decide +kernel)) rfl (tyX12_ok 14 (by decide)) rfl rfl (Nat.le_of_ble_eq_true rfl) dX12_init_60 ?_
  refine C_aload_n dX12_init_63 (i := 0) rfl rfl ?_
  refine C_iconst dX12_init_64 (v := 5) (by decide +kernel) ?_
  refine K_newi w_ai dX12_init_65 (by decide) (N := 5) (by decide +kernel) (by omega) (Nat.le_of_ble_eq_true rfl) (Nat.le_of_ble_eq_true rfl) (q := 7) rfl ?_
  refine K_putF hi rfl in_12 tyX12 tyX12_ok nmX12 rfl (k := 15) (by decide) (gm (by decide +kernel) (by decide +kernel)) rfl rfl (tyX12_ok 15 (by decide)) rfl rfl (Nat.le_of_ble_eq_true rfl) dX12_init_67 ?_
  refine C_aload_n dX12_init_70 (i := 0) rfl rfl ?_
  refine C_sipush dX12_init_71 (v := 400) (by decide +kernel) ?_
  refine K_newi w_ai dX12_init_74 (by decide) (N := 400) (by decide +kernel) (by omega) (Nat.le_of_ble_eq_true rfl) (Nat.le_of_ble_eq_true rfl) (q := 8) rfl ?_
  refine K_putF hi rfl in_12 tyX12 tyX12_ok nmX12 rfl (k := 17) (by decide) (gm (by decide +kernel) (by decide +kernel)) rfl rfl (tyX12_ok 17 (by decide)) rfl rfl (Nat.le_of_ble_eq_true rfl) dX12_init_76 ?_
  refine C_aload_n dX12_init_79 (i := 0) rfl rfl ?_
  refine C_bipush dX12_init_80 (v := 9) (by decide +kernel) ?_
  refine K_newi w_ai dX12_init_82 (by decide) (N := 9) (by decide +kernel) (by omega) (Nat.le_of_ble_eq_true rfl) (Nat.le_of_ble_eq_true rfl) (q := 9) rfl ?_
  refine K_putF hi rfl in_12 tyX12 tyX12_ok nmX12 rfl (k := 22) (by decide) (gm (by decide +kernel) (by decide +kernel)) rfl rfl (tyX12_ok 22 (by decide)) rfl rfl (Nat.le_of_ble_eq_true rfl) dX12_init_84 ?_
  refine C_aload_n dX12_init_87 (i := 0) rfl rfl ?_
  refine C_bipush dX12_init_88 (v := 8) (by decide +kernel) ?_
  refine K_newi w_ai dX12_init_90 (by decide) (N := 8) (by decide +kernel) (by omega) (Nat.le_of_ble_eq_true rfl) (Nat.le_of_ble_eq_true rfl) (q := 10) rfl ?_
  refine K_putF hi rfl in_12 tyX12 tyX12_ok nmX12 rfl (k := 23) (by decide) (gm (by decide +kernel) (by decide +kernel)) rfl rfl (tyX12_ok 23 (by decide)) rfl rfl (Nat.le_of_ble_eq_true rfl) dX12_init_92 ?_
  refine C_aload_n dX12_init_95 (i := 0) rfl rfl ?_
  refine C_sipush dX12_init_96 (v := 256) (by decide +kernel) ?_
  refine K_newi w_ai dX12_init_99 (by decide) (N := 256) (by decide +kernel) (by omega) (Nat.le_of_ble_eq_true rfl) (Nat.le_of_ble_eq_true rfl) (q := 11) rfl ?_
  refine K_putF hi rfl in_12 tyX12 tyX12_ok nmX12 rfl (k := 24) (by decide) (gm (by decide +kernel) (by decide +kernel)) rfl rfl (tyX12_ok 24 (by decide)) rfl rfl (Nat.le_of_ble_eq_true rfl) dX12_init_101 ?_
  refine C_aload_n dX12_init_104 (i := 0) rfl rfl ?_
  refine C_get rfl in_12 rfl own_at (k := 1) (by decide) (gm (by decide +kernel) (by decide +kernel)) rfl dX12_init_105 ?_
  refine C_iconst dX12_init_108 (v := 5) (by decide +kernel) ?_
  refine C_iconst dX12_init_109 (v := 5) (by decide +kernel) ?_
  refine K_iast rfl (by decide) dX12_init_110 ?_
  refine C_aload_n dX12_init_111 (i := 0) rfl rfl ?_
  refine C_get rfl in_12 rfl own_at (k := 1) (by decide) (gm (by decide +kernel) (by decide +kernel)) rfl dX12_init_112 ?_
  refine C_bipush dX12_init_115 (v := 6) (by decide +kernel) ?_
  refine C_bipush dX12_init_117 (v := 100) (by decide +kernel) ?_
  refine K_iast rfl (by decide) dX12_init_119 ?_
  refine C_aload_n dX12_init_120 (i := 0) rfl rfl ?_
  refine C_get rfl in_12 rfl own_at (k := 1) (by decide) (gm (by decide +kernel) (by decide +kernel)) rfl dX12_init_121 ?_
  refine C_bipush dX12_init_124 (v := 9) (by decide +kernel) ?_
  refine C_iconst dX12_init_126 (v := 1) (by decide +kernel) ?_
  refine K_iast rfl (by decide) dX12_init_127 ?_
  exact C_ret dX12_init_128 rfl (Nat.le_of_ble_eq_true rfl) (Nat.le_of_ble_eq_true rfl)
