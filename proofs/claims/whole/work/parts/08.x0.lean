theorem kpast {i : Int32} (h : inb i 12 = true) : kd (63 + 9 * ix i) = 4 := (by decide +kernel : ∀ j, j < 12 → kd (63 + 9 * j) = 4) (ix i) (inb_ix h)
theorem V_aaldH {y : MD} {w : TG} {g : VG} {kc ks : Nat} {Q : State → Prop} {β : Type} {κ : β → Prop} {pc : Nat} {vs : List (Option Value)} {rest : List Value} {σ : MS} {X : Option β} {i : Int32} (hd : decode y.2.1 pc = .ok (.aaload, 1)) (kk : inb i 12 = true → VV y w g kc ks Q κ (pc + 1) vs (.ref (wB w + (63 + 9 * ix i)) :: rest) σ X) : VV y w g kc ks Q κ pc vs (.int i :: .ref (wB w + 62) :: rest) σ (if inb i 12 then X else none) := by
  by_cases h : inb i 12 = true
  · exact V_aald hd (kk h)
  · rw [if_neg h]
    exact V_none

def m_X11_feed : MD := (yX11_feed, cX11_feed, 6, (some .int), 1, 22, 0, 0)
def m_X11_end : MD := (yX11_end, cX11_end, 2, (some .boolean), 0, 0, 0, 0)
def m_X11_textWasRead : MD := (yX11_textWasRead, cX11_textWasRead, 2, none, 0, 0, 0, 0)
def m_X11_house : MD := (yX11_house, cX11_house, 2, (some .int), 9, 316, 1, 6)
def m_X11_law : MD := (yX11_law, cX11_law, 2, (some .int), 39, 1100, 1, 6)
def m_X11_fault : MD := (yX11_fault, cX11_fault, 1, (some .int), 0, 0, 0, 0)
def m_X11_needPerson : MD := (yX11_needPerson, cX11_needPerson, 2, none, 8, 100, 1, 6)
def m_X11_person : MD := (yX11_person, cX11_person, 3, (some .int), 9, 121, 2, 12)
def m_X11_needTwo : MD := (yX11_needTwo, cX11_needTwo, 3, none, 9, 121, 3, 18)
def m_X11_liking : MD := (yX11_liking, cX11_liking, 3, (some .int), 10, 143, 3, 18)
def m_X11_bond : MD := (yX11_bond, cX11_bond, 4, (some .int), 10, 143, 3, 18)
def m_X11_needNumber : MD := (yX11_needNumber, cX11_needNumber, 4, none, 8, 100, 1, 6)
def m_X11_told : MD := (yX11_told, cX11_told, 8, (some .int), 10, 225, 6, 36)
def m_X11_needCup : MD := (yX11_needCup, cX11_needCup, 3, none, 9, 123, 2, 12)
def m_X11_remember : MD := (yX11_remember, cX11_remember, 1, none, 5, 221, 0, 0)
def m_X11_share : MD := (yX11_share, cX11_share, 3, (some .int), 10, 307, 2, 12)
def m_X11_wash : MD := (yX11_wash, cX11_wash, 4, (some .int), 10, 241, 3, 18)
def m_X11_needRoom : MD := (yX11_needRoom, cX11_needRoom, 2, none, 8, 100, 1, 6)
def m_X11_go : MD := (yX11_go, cX11_go, 4, (some .int), 9, 241, 2, 12)
def m_X11_strew : MD := (yX11_strew, cX11_strew, 4, (some .boolean), 9, 241, 1, 6)
def m_X11_wed : MD := (yX11_wed, cX11_wed, 3, none, 10, 241, 4, 24)
def m_X11_clear : MD := (yX11_clear, cX11_clear, 3, (some .int), 9, 241, 1, 6)
theorem fk_X11_10 : fk RX11 10 11 0 := ⟨_, _, _, rfl, in_11, by decide, rfl, by decide, gx 420 (by decide +kernel) (by decide +kernel)⟩
theorem fk_X11_107 : fk RX11 107 9 1 := ⟨_, _, _, rfl, in_9, by decide, rfl, by decide, gx 172 (by decide +kernel) (by decide +kernel)⟩
theorem wm_X9_append : wmp m_X9_append 1 := ⟨gx 483 (by decide +kernel) (by decide +kernel), gx 484 (by decide +kernel) (by decide +kernel), gx 128 (by decide +kernel) (by decide +kernel), gx 485 (by decide +kernel) (by decide +kernel), by decide +kernel, by decide +kernel, by decide +kernel⟩
theorem cw_X11_110 : cwp RX11 110 m_X9_append 1 := cwp_of wm_X9_append (gx 482 (by decide +kernel) (by decide +kernel))
theorem fp_X11_107 : fp RX11 107 9 1 .int := ⟨_, _, _, tyX9, rfl, in_9, by decide, rfl, by decide, gx 172 (by decide +kernel) (by decide +kernel), rfl, by decide +kernel, tyX9_ok, nmX9⟩
theorem fp_X11_103 : fp RX11 103 11 18 .int := ⟨_, _, _, tyX11, rfl, in_11, by decide, rfl, by decide, gx 438 (by decide +kernel) (by decide +kernel), rfl, by decide +kernel, tyX11_ok, nmX11⟩
theorem fk_X11_383 : fk RX11 383 9 2 := ⟨_, _, _, rfl, in_9, by decide, rfl, by decide, gx 177 (by decide +kernel) (by decide +kernel)⟩
theorem fk_X11_23 : fk RX11 23 11 2 := ⟨_, _, _, rfl, in_11, by decide, rfl, by decide, gx 422 (by decide +kernel) (by decide +kernel)⟩
theorem fk_X11_19 : fk RX11 19 11 1 := ⟨_, _, _, rfl, in_11, by decide, rfl, by decide, gx 421 (by decide +kernel) (by decide +kernel)⟩
theorem wm_X4_become : wmp m_X4_become 1 := ⟨gx 637 (by decide +kernel) (by decide +kernel), gx 638 (by decide +kernel) (by decide +kernel), gx 129 (by decide +kernel) (by decide +kernel), gx 639 (by decide +kernel) (by decide +kernel), by decide +kernel, by decide +kernel, by decide +kernel⟩
theorem cw_X11_114 : cwp RX11 114 m_X4_become 1 := cwp_of wm_X4_become (gx 636 (by decide +kernel) (by decide +kernel))
theorem fk_X11_47 : fk RX11 47 11 7 := ⟨_, _, _, rfl, in_11, by decide, rfl, by decide, gx 427 (by decide +kernel) (by decide +kernel)⟩
theorem wm_X5_tells : wmp m_X5_tells 1 := ⟨gx 689 (by decide +kernel) (by decide +kernel), gx 690 (by decide +kernel) (by decide +kernel), gx 131 (by decide +kernel) (by decide +kernel), gx 691 (by decide +kernel) (by decide +kernel), by decide +kernel, by decide +kernel, by decide +kernel⟩
theorem cw_X11_117 : cwp RX11 117 m_X5_tells 1 := cwp_of wm_X5_tells (gx 688 (by decide +kernel) (by decide +kernel))
theorem wm_X11_textWasRead : wmp m_X11_textWasRead 1 := ⟨gx 835 (by decide +kernel) (by decide +kernel), gx 13 (by decide +kernel) (by decide +kernel), gx 127 (by decide +kernel) (by decide +kernel), gx 836 (by decide +kernel) (by decide +kernel), by decide +kernel, by decide +kernel, by decide +kernel⟩
theorem cw_X11_121 : cwp RX11 121 m_X11_textWasRead 1 := cwp_of wm_X11_textWasRead (gx 833 (by decide +kernel) (by decide +kernel))
theorem fk_X11_128 : fk RX11 128 4 1 := ⟨_, _, _, rfl, in_4, by decide, rfl, by decide, gx 209 (by decide +kernel) (by decide +kernel)⟩
theorem fp_X11_128 : fp RX11 128 4 1 .int := ⟨_, _, _, tyX4, rfl, in_4, by decide, rfl, by decide, gx 209 (by decide +kernel) (by decide +kernel), rfl, by decide +kernel, tyX4_ok, nmX4⟩
theorem fp_X11_134 : fp RX11 134 11 16 .int := ⟨_, _, _, tyX11, rfl, in_11, by decide, rfl, by decide, gx 436 (by decide +kernel) (by decide +kernel), rfl, by decide +kernel, tyX11_ok, nmX11⟩
theorem tw_X11_131_133 : (∀ t ∈ Cond.classLink RX11 131 (exN 4) :: Cond.initialized (exN 4) :: vx_at0 RX11 133 (exN 4) ["java/lang/RuntimeException", "java/lang/Exception"], t = Cond.castable (exN 4) (exN 4) ∨ t ∈ dcT.map Cond.declares ∨ t ∈ gtb) ∧ (∀ t ∈ Cond.classLink RX11 131 (exN 4) :: Cond.initialized (exN 4) :: vx_at0 RX11 133 (exN 4) ["java/lang/RuntimeException", "java/lang/Exception"], vx_ot t = true) := ⟨by decide +kernel, by decide +kernel⟩
theorem tw_X11_125_127 : (∀ t ∈ Cond.classLink RX11 125 (exN 1) :: Cond.initialized (exN 1) :: vx_at0 RX11 127 (exN 1) ["java/lang/RuntimeException", "java/lang/Exception"], t = Cond.castable (exN 1) (exN 1) ∨ t ∈ dcT.map Cond.declares ∨ t ∈ gtb) ∧ (∀ t ∈ Cond.classLink RX11 125 (exN 1) :: Cond.initialized (exN 1) :: vx_at0 RX11 127 (exN 1) ["java/lang/RuntimeException", "java/lang/Exception"], vx_ot t = true) := ⟨by decide +kernel, by decide +kernel⟩
theorem fk_X11_54 : fk RX11 54 11 8 := ⟨_, _, _, rfl, in_11, by decide, rfl, by decide, gx 428 (by decide +kernel) (by decide +kernel)⟩
theorem fk_X11_36 : fk RX11 36 11 5 := ⟨_, _, _, rfl, in_11, by decide, rfl, by decide, gx 425 (by decide +kernel) (by decide +kernel)⟩
theorem wm_X7_tells : wmp m_X7_tells 1 := ⟨gx 926 (by decide +kernel) (by decide +kernel), gx 927 (by decide +kernel) (by decide +kernel), gx 132 (by decide +kernel) (by decide +kernel), gx 928 (by decide +kernel) (by decide +kernel), by decide +kernel, by decide +kernel, by decide +kernel⟩
theorem cw_X11_137 : cwp RX11 137 m_X7_tells 1 := cwp_of wm_X7_tells (gx 925 (by decide +kernel) (by decide +kernel))
theorem fk_X11_32 : fk RX11 32 11 4 := ⟨_, _, _, rfl, in_11, by decide, rfl, by decide, gx 424 (by decide +kernel) (by decide +kernel)⟩
theorem wm_X6_become : wmp m_X6_become 1 := ⟨gx 648 (by decide +kernel) (by decide +kernel), gx 649 (by decide +kernel) (by decide +kernel), gx 130 (by decide +kernel) (by decide +kernel), gx 650 (by decide +kernel) (by decide +kernel), by decide +kernel, by decide +kernel, by decide +kernel⟩
theorem cw_X11_140 : cwp RX11 140 m_X6_become 1 := cwp_of wm_X6_become (gx 647 (by decide +kernel) (by decide +kernel))
theorem fk_X11_143 : fk RX11 143 6 0 := ⟨_, _, _, rfl, in_6, by decide, rfl, by decide, gx 293 (by decide +kernel) (by decide +kernel)⟩
theorem fk_X11_103 : fk RX11 103 11 18 := ⟨_, _, _, rfl, in_11, by decide, rfl, by decide, gx 438 (by decide +kernel) (by decide +kernel)⟩
theorem cw_X11_376 : cwp RX11 376 m_X4_has 1 := cwp_of wm_X4_has (gx 985 (by decide +kernel) (by decide +kernel))
theorem tw_X11_380_382 : (∀ t ∈ Cond.classLink RX11 380 (exN 0) :: Cond.initialized (exN 0) :: vx_at0 RX11 382 (exN 0) ["java/lang/RuntimeException", "java/lang/Exception"], t = Cond.castable (exN 0) (exN 0) ∨ t ∈ dcT.map Cond.declares ∨ t ∈ gtb) ∧ (∀ t ∈ Cond.classLink RX11 380 (exN 0) :: Cond.initialized (exN 0) :: vx_at0 RX11 382 (exN 0) ["java/lang/RuntimeException", "java/lang/Exception"], vx_ot t = true) := ⟨by decide +kernel, by decide +kernel⟩
theorem wm_X11_needPerson : wmp m_X11_needPerson 1 := ⟨gx 983 (by decide +kernel) (by decide +kernel), gx 19 (by decide +kernel) (by decide +kernel), gx 127 (by decide +kernel) (by decide +kernel), gx 984 (by decide +kernel) (by decide +kernel), by decide +kernel, by decide +kernel, by decide +kernel⟩
theorem cw_X11_146 : cwp RX11 146 m_X11_needPerson 1 := cwp_of wm_X11_needPerson (gx 981 (by decide +kernel) (by decide +kernel))
theorem fk_X11_149 : fk RX11 149 4 8 := ⟨_, _, _, rfl, in_4, by decide, rfl, by decide, gx 238 (by decide +kernel) (by decide +kernel)⟩
theorem fk_X11_153 : fk RX11 153 4 9 := ⟨_, _, _, rfl, in_4, by decide, rfl, by decide, gx 240 (by decide +kernel) (by decide +kernel)⟩
theorem fk_X11_156 : fk RX11 156 4 10 := ⟨_, _, _, rfl, in_4, by decide, rfl, by decide, gx 244 (by decide +kernel) (by decide +kernel)⟩
theorem fk_X11_159 : fk RX11 159 4 11 := ⟨_, _, _, rfl, in_4, by decide, rfl, by decide, gx 247 (by decide +kernel) (by decide +kernel)⟩
theorem cw_X11_162 : cwp RX11 162 m_X4_boundTo 1 := cwp_of wm_X4_boundTo (gx 1004 (by decide +kernel) (by decide +kernel))
theorem fk_X11_72 : fk RX11 72 11 10 := ⟨_, _, _, rfl, in_11, by decide, rfl, by decide, gx 430 (by decide +kernel) (by decide +kernel)⟩
theorem cw_X11_166 : cwp RX11 166 m_X10_around 1 := cwp_of wm_X10_around (gx 1005 (by decide +kernel) (by decide +kernel))
theorem fk_X11_79 : fk RX11 79 11 11 := ⟨_, _, _, rfl, in_11, by decide, rfl, by decide, gx 431 (by decide +kernel) (by decide +kernel)⟩
theorem cw_X11_169 : cwp RX11 169 m_X8_gladder 1 := cwp_of wm_X8_gladder (gx 1006 (by decide +kernel) (by decide +kernel))
theorem cw_X11_172 : cwp RX11 172 m_X4_closest 1 := cwp_of wm_X4_closest (gx 1007 (by decide +kernel) (by decide +kernel))
theorem tw_X11_175_177 : (∀ t ∈ Cond.classLink RX11 175 (exN 2) :: Cond.initialized (exN 2) :: vx_at0 RX11 177 (exN 2) ["java/lang/RuntimeException", "java/lang/Exception"], t = Cond.castable (exN 2) (exN 2) ∨ t ∈ dcT.map Cond.declares ∨ t ∈ gtb) ∧ (∀ t ∈ Cond.classLink RX11 175 (exN 2) :: Cond.initialized (exN 2) :: vx_at0 RX11 177 (exN 2) ["java/lang/RuntimeException", "java/lang/Exception"], vx_ot t = true) := ⟨by decide +kernel, by decide +kernel⟩
theorem wm_X11_needTwo : wmp m_X11_needTwo 2 := ⟨gx 1032 (by decide +kernel) (by decide +kernel), gx 20 (by decide +kernel) (by decide +kernel), gx 127 (by decide +kernel) (by decide +kernel), gx 1033 (by decide +kernel) (by decide +kernel), by decide +kernel, by decide +kernel, by decide +kernel⟩
theorem cw_X11_178 : cwp RX11 178 m_X11_needTwo 2 := cwp_of wm_X11_needTwo (gx 1030 (by decide +kernel) (by decide +kernel))
theorem cw_X11_182 : cwp RX11 182 m_X4_likingOf 2 := cwp_of wm_X4_likingOf (gx 1034 (by decide +kernel) (by decide +kernel))
theorem cw_X11_189 : cwp RX11 189 m_X4_held 2 := cwp_of wm_X4_held (gx 1043 (by decide +kernel) (by decide +kernel))
theorem cw_X11_186 : cwp RX11 186 m_X4_heldTill 2 := cwp_of wm_X4_heldTill (gx 1042 (by decide +kernel) (by decide +kernel))
theorem wm_X11_needNumber : wmp m_X11_needNumber 3 := ⟨gx 1053 (by decide +kernel) (by decide +kernel), gx 21 (by decide +kernel) (by decide +kernel), gx 127 (by decide +kernel) (by decide +kernel), gx 1054 (by decide +kernel) (by decide +kernel), by decide +kernel, by decide +kernel, by decide +kernel⟩
theorem cw_X11_192 : cwp RX11 192 m_X11_needNumber 3 := cwp_of wm_X11_needNumber (gx 1051 (by decide +kernel) (by decide +kernel))
theorem mw_X11_196 : Cond.methodLink RX11 196 Lib.Math.min.name ∈ gtb ∧ Cond.static Lib.Math.min.name ∈ gtb ∧ Cond.initialized "java/lang/Math" ∈ gtb ∧ Cond.code Lib.Math.min.name Lib.Math.min.code 2 (some .int) ∈ gtb := ⟨gx 1055 (by decide +kernel) (by decide +kernel), math_min⟩
theorem mw_X11_201 : Cond.methodLink RX11 201 Lib.Math.max.name ∈ gtb ∧ Cond.static Lib.Math.max.name ∈ gtb ∧ Cond.initialized "java/lang/Math" ∈ gtb ∧ Cond.code Lib.Math.max.name Lib.Math.max.code 2 (some .int) ∈ gtb := ⟨gx 1056 (by decide +kernel) (by decide +kernel), math_max⟩
theorem cw_X11_204 : cwp RX11 204 m_X6_bindsBy 5 := cwp_of wm_X6_bindsBy (gx 1057 (by decide +kernel) (by decide +kernel))
theorem cw_X11_208 : cwp RX11 208 m_X6_lastsFor 5 := cwp_of wm_X6_lastsFor (gx 1079 (by decide +kernel) (by decide +kernel))
theorem cw_X11_211 : cwp RX11 211 m_X6_suspectsBy 3 := cwp_of wm_X6_suspectsBy (gx 1083 (by decide +kernel) (by decide +kernel))
theorem cw_X11_221 : cwp RX11 221 m_X4_everybody 0 := cwp_of wm_X4_everybody (gx 1098 (by decide +kernel) (by decide +kernel))
theorem cs_X11_321 : csp RX11 321 m_J6_bitCount_0f7a4 1 := csp_of wm_J6_bitCount_0f7a4 (gx 1099 (by decide +kernel) (by decide +kernel))
theorem fk_X11_99 : fk RX11 99 11 14 := ⟨_, _, _, rfl, in_11, by decide, rfl, by decide, gx 434 (by decide +kernel) (by decide +kernel)⟩
theorem fk_X11_354 : fk RX11 354 11 15 := ⟨_, _, _, rfl, in_11, by decide, rfl, by decide, gx 435 (by decide +kernel) (by decide +kernel)⟩
theorem fk_X11_134 : fk RX11 134 11 16 := ⟨_, _, _, rfl, in_11, by decide, rfl, by decide, gx 436 (by decide +kernel) (by decide +kernel)⟩
theorem fp_X11_354 : fp RX11 354 11 15 .int := ⟨_, _, _, tyX11, rfl, in_11, by decide, rfl, by decide, gx 435 (by decide +kernel) (by decide +kernel), rfl, by decide +kernel, tyX11_ok, nmX11⟩
theorem wm_X11_needCup : wmp m_X11_needCup 2 := ⟨gx 1096 (by decide +kernel) (by decide +kernel), gx 25 (by decide +kernel) (by decide +kernel), gx 127 (by decide +kernel) (by decide +kernel), gx 1097 (by decide +kernel) (by decide +kernel), by decide +kernel, by decide +kernel, by decide +kernel⟩
theorem cw_X11_215 : cwp RX11 215 m_X11_needCup 2 := cwp_of wm_X11_needCup (gx 1094 (by decide +kernel) (by decide +kernel))
theorem wm_X11_remember : wmp m_X11_remember 0 := ⟨gx 1102 (by decide +kernel) (by decide +kernel), gx 26 (by decide +kernel) (by decide +kernel), gx 127 (by decide +kernel) (by decide +kernel), gx 1103 (by decide +kernel) (by decide +kernel), by decide +kernel, by decide +kernel, by decide +kernel⟩
theorem cw_X11_218 : cwp RX11 218 m_X11_remember 0 := cwp_of wm_X11_remember (gx 1100 (by decide +kernel) (by decide +kernel))
theorem fk_X11_63 : fk RX11 63 11 9 := ⟨_, _, _, rfl, in_11, by decide, rfl, by decide, gx 429 (by decide +kernel) (by decide +kernel)⟩
theorem wm_X1_pour : wmp m_X1_pour 3 := ⟨gx 1105 (by decide +kernel) (by decide +kernel), gx 1106 (by decide +kernel) (by decide +kernel), gx 133 (by decide +kernel) (by decide +kernel), gx 1107 (by decide +kernel) (by decide +kernel), by decide +kernel, by decide +kernel, by decide +kernel⟩
theorem cw_X11_225 : cwp RX11 225 m_X1_pour 3 := cwp_of wm_X1_pour (gx 1104 (by decide +kernel) (by decide +kernel))
theorem cw_X11_229 : cwp RX11 229 m_X4_tie 4 := cwp_of wm_X4_tie (gx 1135 (by decide +kernel) (by decide +kernel))
theorem wm_X11_needRoom : wmp m_X11_needRoom 1 := ⟨gx 1145 (by decide +kernel) (by decide +kernel), gx 30 (by decide +kernel) (by decide +kernel), gx 127 (by decide +kernel) (by decide +kernel), gx 1146 (by decide +kernel) (by decide +kernel), by decide +kernel, by decide +kernel, by decide +kernel⟩
theorem cw_X11_233 : cwp RX11 233 m_X11_needRoom 1 := cwp_of wm_X11_needRoom (gx 1143 (by decide +kernel) (by decide +kernel))
theorem fp_X11_236 : fp RX11 236 4 2 .int := ⟨_, _, _, tyX4, rfl, in_4, by decide, rfl, by decide, gx 214 (by decide +kernel) (by decide +kernel), rfl, by decide +kernel, tyX4_ok, nmX4⟩
theorem fk_X11_236 : fk RX11 236 4 2 := ⟨_, _, _, rfl, in_4, by decide, rfl, by decide, gx 214 (by decide +kernel) (by decide +kernel)⟩
theorem tw_X11_239_241 : (∀ t ∈ Cond.classLink RX11 239 (exN 3) :: Cond.initialized (exN 3) :: vx_at0 RX11 241 (exN 3) ["java/lang/RuntimeException", "java/lang/Exception"], t = Cond.castable (exN 3) (exN 3) ∨ t ∈ dcT.map Cond.declares ∨ t ∈ gtb) ∧ (∀ t ∈ Cond.classLink RX11 239 (exN 3) :: Cond.initialized (exN 3) :: vx_at0 RX11 241 (exN 3) ["java/lang/RuntimeException", "java/lang/Exception"], vx_ot t = true) := ⟨by decide +kernel, by decide +kernel⟩
theorem cw_X11_242 : cwp RX11 242 m_X4_marry 2 := cwp_of wm_X4_marry (gx 1177 (by decide +kernel) (by decide +kernel))
def f_X11_feed (n : Nat) (p1 : Int32) (p2 : Int32) (p3 : Int32) (p4 : Int32) (p5 : Int32) (σ : MS) : Option (Int32 × MS) := (if ((σ 1 1) + (20 : Int32)) ≤ (400 : Int32) then ((f_X9_append n p1 σ).bind (fun q23 => ((f_X9_append n p2 q23.2).bind (fun q31 => ((f_X9_append n p3 q31.2).bind (fun q39 => ((f_X9_append n p4 q39.2).bind (fun q48 => ((f_X9_append n p5 q48.2).bind (fun q57 => some ((q57.2 1 1), q57.2))))))))))) else some ((-1 : Int32), σ))
set_option maxRecDepth 20000 in
set_option maxHeartbeats 2000000 in
theorem c_X11_feed (w : TG) (n : Nat) (p1 : Int32) (p2 : Int32) (p3 : Int32) (p4 : Int32) (p5 : Int32) (σ : MS) : MC m_X11_feed w [.ref (wB w + 0), .int p1, .int p2, .int p3, .int p4, .int p5] σ (f_X11_feed n p1 p2 p3 p4 p5 σ) := by
  refine V_meth (by decide +kernel) (Nat.le_of_ble_eq_true rfl) (by intro v hv; simp only [List.mem_cons, List.not_mem_nil, or_false] at hv; rcases hv with rfl | rfl | rfl | rfl | rfl | rfl <;> rfl) (fun g x => ?_)
  show VV m_X11_feed w g 0 0 (QM m_X11_feed w g x) (fun b : Int32 × MS => b = x) 0 [some (.ref (wB w + 0)), some (.int p1), some (.int p2), some (.int p3), some (.int p4), some (.int p5)] [] σ (f_X11_feed n p1 p2 p3 p4 p5 σ)
  refine V_aload_n (pc := 0) dX11_feed_0 rfl rfl ?_
  refine V_getr (pc := 1) (t := 1) fk_X11_10 rfl dX11_feed_1 kc_0 rf_11_0_0 ?_
  refine V_geti (pc := 4) fk_X11_107 rfl dX11_feed_4 kc_1 rf_9_1_1 ?_
  refine V_bipush (pc := 7) dX11_feed_7 bp_20 ?_
  refine V_iadd (pc := 9) dX11_feed_9 ?_
  refine V_sipush (pc := 10) dX11_feed_10 sp_400 ?_
  refine V_icmp_le (pc := 13) (tgt := 18) dX11_feed_13 (by decide +kernel) ?_ ?_
  · refine V_aload_n (pc := 18) dX11_feed_18 rfl rfl ?_
    refine V_getr (pc := 19) (t := 1) fk_X11_10 rfl dX11_feed_19 kc_0 rf_11_0_0 ?_
    refine V_iload_n (pc := 22) dX11_feed_22 rfl rfl ?_
    refine V_callVv (pc := 23) (As := [.int p1]) (rest := []) (c_X9_append w n p1 σ) cw_X11_110 rfl rfl dX11_feed_23 kc_1 ci_9 ⟨Nat.le_of_ble_eq_true rfl, Nat.le_of_ble_eq_true rfl⟩ rfl rfl (Nat.le_of_ble_eq_true rfl) (Nat.le_of_ble_eq_true rfl) (Nat.le_of_ble_eq_true rfl) rfl (fun q23 => ?_)
    refine V_aload_n (pc := 26) dX11_feed_26 rfl rfl ?_
    refine V_getr (pc := 27) (t := 1) fk_X11_10 rfl dX11_feed_27 kc_0 rf_11_0_0 ?_
    refine V_iload_n (pc := 30) dX11_feed_30 rfl rfl ?_
    refine V_callVv (pc := 31) (As := [.int p2]) (rest := []) (c_X9_append w n p2 q23.2) cw_X11_110 rfl rfl dX11_feed_31 kc_1 ci_9 ⟨Nat.le_of_ble_eq_true rfl, Nat.le_of_ble_eq_true rfl⟩ rfl rfl (Nat.le_of_ble_eq_true rfl) (Nat.le_of_ble_eq_true rfl) (Nat.le_of_ble_eq_true rfl) rfl (fun q31 => ?_)
    refine V_aload_n (pc := 34) dX11_feed_34 rfl rfl ?_
    refine V_getr (pc := 35) (t := 1) fk_X11_10 rfl dX11_feed_35 kc_0 rf_11_0_0 ?_
    refine V_iload_n (pc := 38) dX11_feed_38 rfl rfl ?_
    refine V_callVv (pc := 39) (As := [.int p3]) (rest := []) (c_X9_append w n p3 q31.2) cw_X11_110 rfl rfl dX11_feed_39 kc_1 ci_9 ⟨Nat.le_of_ble_eq_true rfl, Nat.le_of_ble_eq_true rfl⟩ rfl rfl (Nat.le_of_ble_eq_true rfl) (Nat.le_of_ble_eq_true rfl) (Nat.le_of_ble_eq_true rfl) rfl (fun q39 => ?_)
    refine V_aload_n (pc := 42) dX11_feed_42 rfl rfl ?_
    refine V_getr (pc := 43) (t := 1) fk_X11_10 rfl dX11_feed_43 kc_0 rf_11_0_0 ?_
    refine V_iload (pc := 46) dX11_feed_46 rfl ?_
    refine V_callVv (pc := 48) (As := [.int p4]) (rest := []) (c_X9_append w n p4 q39.2) cw_X11_110 rfl rfl dX11_feed_48 kc_1 ci_9 ⟨Nat.le_of_ble_eq_true rfl, Nat.le_of_ble_eq_true rfl⟩ rfl rfl (Nat.le_of_ble_eq_true rfl) (Nat.le_of_ble_eq_true rfl) (Nat.le_of_ble_eq_true rfl) rfl (fun q48 => ?_)
    refine V_aload_n (pc := 51) dX11_feed_51 rfl rfl ?_
    refine V_getr (pc := 52) (t := 1) fk_X11_10 rfl dX11_feed_52 kc_0 rf_11_0_0 ?_
    refine V_iload (pc := 55) dX11_feed_55 rfl ?_
    refine V_callVv (pc := 57) (As := [.int p5]) (rest := []) (c_X9_append w n p5 q48.2) cw_X11_110 rfl rfl dX11_feed_57 kc_1 ci_9 ⟨Nat.le_of_ble_eq_true rfl, Nat.le_of_ble_eq_true rfl⟩ rfl rfl (Nat.le_of_ble_eq_true rfl) (Nat.le_of_ble_eq_true rfl) (Nat.le_of_ble_eq_true rfl) rfl (fun q57 => ?_)
    refine V_aload_n (pc := 60) dX11_feed_60 rfl rfl ?_
    refine V_getr (pc := 61) (t := 1) fk_X11_10 rfl dX11_feed_61 kc_0 rf_11_0_0 ?_
    refine V_geti (pc := 64) fk_X11_107 rfl dX11_feed_64 kc_1 rf_9_1_1 ?_
    exact V_ireti (pc := 67) dX11_feed_67 rfl (hk := fun h => h)
  · refine V_iconst (pc := 16) dX11_feed_16 ic_m1 ?_
    exact V_ireti (pc := 17) dX11_feed_17 rfl (hk := fun h => h)
def J_X11_end_15  (σ : MS) : Option (Int32 × MS) := some ((0 : Int32), σ)
def f_X11_end (p1 : Int32) (σ : MS) : Option (Int32 × MS) := (if p1 < 0 then J_X11_end_15  σ else (if p1 ≤ (σ 1 1) then (ltM (mu σ 1 1 p1) (fun s22 => some ((1 : Int32), s22))) else J_X11_end_15  σ))
set_option maxRecDepth 20000 in
set_option maxHeartbeats 2000000 in
theorem c_X11_end (w : TG) (p1 : Int32) (σ : MS) : MC m_X11_end w [.ref (wB w + 0), .int p1] σ (f_X11_end p1 σ) := by
  refine V_meth (by decide +kernel) (Nat.le_of_ble_eq_true rfl) (by intro v hv; simp only [List.mem_cons, List.not_mem_nil, or_false] at hv; rcases hv with rfl | rfl <;> rfl) (fun g x => ?_)
  show VV m_X11_end w g 0 0 (QM m_X11_end w g x) (fun b : Int32 × MS => b = x) 0 [some (.ref (wB w + 0)), some (.int p1)] [] σ (f_X11_end p1 σ)
  have hJ15 : ∀ (σ : MS), VV m_X11_end w g 0 0 (QM m_X11_end w g x) (fun b : Int32 × MS => b = x) 15 [none, none] [] σ (J_X11_end_15  σ) := by
    intro σ
    refine V_iconst (pc := 15) dX11_end_15 ic_0 ?_
    exact V_iretz (pc := 16) dX11_end_16 rfl rfl (hk := fun h => h)
  refine V_iload_n (pc := 0) dX11_end_0 rfl rfl ?_
  refine V_if_lt (pc := 1) (tgt := 15) dX11_end_1 (by decide +kernel) ?_ ?_
  · refine V_sub (vs' := [none, none]) (show vless _ _ from trivial) rfl ?_
    exact hJ15 σ
  · refine V_iload_n (pc := 4) dX11_end_4 rfl rfl ?_
    refine V_aload_n (pc := 5) dX11_end_5 rfl rfl ?_
    refine V_getr (pc := 6) (t := 1) fk_X11_10 rfl dX11_end_6 kc_0 rf_11_0_0 ?_
    refine V_geti (pc := 9) fk_X11_107 rfl dX11_end_9 kc_1 rf_9_1_1 ?_
    refine V_icmp_le (pc := 12) (tgt := 17) dX11_end_12 (by decide +kernel) ?_ ?_
    · refine V_aload_n (pc := 17) dX11_end_17 rfl rfl ?_
      refine V_getr (pc := 18) (t := 1) fk_X11_10 rfl dX11_end_18 kc_0 rf_11_0_0 ?_
      refine V_iload_n (pc := 21) dX11_end_21 rfl rfl ?_
      refine V_puti (pc := 22) fp_X11_107 rfl dX11_end_22 kc_1 rf_9_1_1 (fun s22 => ?_)
      refine V_iconst (pc := 25) dX11_end_25 ic_1 ?_
      exact V_iretz (pc := 26) dX11_end_26 rfl rfl (hk := fun h => h)
    · refine V_sub (vs' := [none, none]) (show vless _ _ from trivial) rfl ?_
      exact hJ15 σ
def J_X11_textWasRead_16 (t0 : Int32) (σ : MS) : Option (Int32 × MS) := (ltM (mu σ 0 18 t0) (fun s16 => (ltM (mu s16 1 1 (0 : Int32)) (fun s24 => some (0, s24)))))
def f_X11_textWasRead (p1 : Int32) (σ : MS) : Option (Int32 × MS) := (if p1 = 0 then J_X11_textWasRead_16 (σ 1 2) σ else J_X11_textWasRead_16 (-1 : Int32) σ)
set_option maxRecDepth 20000 in
set_option maxHeartbeats 2000000 in
theorem c_X11_textWasRead (w : TG) (p1 : Int32) (σ : MS) : MC m_X11_textWasRead w [.ref (wB w + 0), .int p1] σ (f_X11_textWasRead p1 σ) := by
  refine V_meth (by decide +kernel) (Nat.le_of_ble_eq_true rfl) (by intro v hv; simp only [List.mem_cons, List.not_mem_nil, or_false] at hv; rcases hv with rfl | rfl <;> rfl) (fun g x => ?_)
  show VV m_X11_textWasRead w g 0 0 (QM m_X11_textWasRead w g x) (fun b : Int32 × MS => b = x) 0 [some (.ref (wB w + 0)), some (.int p1)] [] σ (f_X11_textWasRead p1 σ)
  have hJ16 : ∀ (t0 : Int32) (σ : MS), VV m_X11_textWasRead w g 0 0 (QM m_X11_textWasRead w g x) (fun b : Int32 × MS => b = x) 16 [some (.ref (wB w + 0)), none] [.int t0, .ref (wB w + 0)] σ (J_X11_textWasRead_16 t0 σ) := by
    intro t0 σ
    refine V_puti (pc := 16) fp_X11_103 rfl dX11_textWasRead_16 kc_0 rf_11_18_0 (fun s16 => ?_)
    refine V_aload_n (pc := 19) dX11_textWasRead_19 rfl rfl ?_
    refine V_getr (pc := 20) (t := 1) fk_X11_10 rfl dX11_textWasRead_20 kc_0 rf_11_0_0 ?_
    refine V_iconst (pc := 23) dX11_textWasRead_23 ic_0 ?_
    refine V_puti (pc := 24) fp_X11_107 rfl dX11_textWasRead_24 kc_1 rf_9_1_1 (fun s24 => ?_)
    exact V_ret (pc := 27) dX11_textWasRead_27 rfl (hk := fun h => h)
  refine V_aload_n (pc := 0) dX11_textWasRead_0 rfl rfl ?_
  refine V_iload_n (pc := 1) dX11_textWasRead_1 rfl rfl ?_
  refine V_if_eq (pc := 2) (tgt := 9) dX11_textWasRead_2 (by decide +kernel) ?_ ?_
  · refine V_aload_n (pc := 9) dX11_textWasRead_9 rfl rfl ?_
    refine V_getr (pc := 10) (t := 1) fk_X11_10 rfl dX11_textWasRead_10 kc_0 rf_11_0_0 ?_
    refine V_geti (pc := 13) fk_X11_383 rfl dX11_textWasRead_13 kc_1 rf_9_2_1 ?_
    refine V_sub (vs' := [some (.ref (wB w + 0)), none]) (show vless _ _ from ⟨rfl, trivial⟩) rfl ?_
    exact hJ16 (σ 1 2) σ
  · refine V_iconst (pc := 5) dX11_textWasRead_5 ic_m1 ?_
    refine V_goto (pc := 6) (tgt := 16) dX11_textWasRead_6 (by decide +kernel) ?_
    refine V_sub (vs' := [some (.ref (wB w + 0)), none]) (show vless _ _ from ⟨rfl, trivial⟩) rfl ?_
    exact hJ16 (-1 : Int32) σ
def f_X11_house (n : Nat)  (σ : MS) : Option (XRes) := ((f_X4_become 12 3 σ).bind (fun q8 => ((f_X5_tells n 12 q8.2).bind (fun q19 => ((f_X11_textWasRead q19.1 q19.2).bind (fun q25 => (if q19.1 = 0 then some (.inr 1, q25.2) else (if (q25.2 3 1) < (12 : Int32) then ((f_X4_become 3 12 q25.2).bind (fun q68 => (ltM (mu q68.2 3 1 ((q68.2 3 1) + (1 : Int32))) (fun s81 => (ltM (mu s81 0 16 (0 : Int32)) (fun s86 => some (.inl (s86 3 1), s86))))))) else some (.inr 4, q25.2)))))))))
set_option maxRecDepth 20000 in
set_option maxHeartbeats 2000000 in
theorem c_X11_house (w : TG) (n : Nat)  (σ : MS) : MX m_X11_house w [.ref (wB w + 0)] σ (f_X11_house n  σ) := by
  refine VX_meth (by decide +kernel) (Nat.le_of_ble_eq_true rfl) (by intro v hv; simp only [List.mem_cons, List.not_mem_nil, or_false] at hv; subst hv; rfl) (fun g x hno => ?_)
  show VV m_X11_house w g 0 0 (QX m_X11_house w g x) (fun b : XRes => b = x) 0 [some (.ref (wB w + 0)), none] [] σ (f_X11_house n  σ)
  refine V_aload_n (pc := 0) dX11_house_0 rfl rfl ?_
  refine V_getr (pc := 1) (t := 12) fk_X11_23 rfl dX11_house_1 kc_0 rf_11_2_0 ?_
  refine V_aload_n (pc := 4) dX11_house_4 rfl rfl ?_
  refine V_getr (pc := 5) (t := 3) fk_X11_19 rfl dX11_house_5 kc_0 rf_11_1_0 ?_
  refine V_callVv (pc := 8) (As := [.ref (wB w + 3)]) (rest := []) (c_X4_become w 12 3 kc_12 kc_3 σ) cw_X11_114 rfl rfl dX11_house_8 kc_12 ci_4 ⟨Nat.le_of_ble_eq_true rfl, Nat.le_of_ble_eq_true rfl⟩ rfl rfl (Nat.le_of_ble_eq_true rfl) (Nat.le_of_ble_eq_true rfl) (Nat.le_of_ble_eq_true rfl) rfl (fun q8 => ?_)
  refine V_aload_n (pc := 11) dX11_house_11 rfl rfl ?_
  refine V_getr (pc := 12) (t := 51) fk_X11_47 rfl dX11_house_12 kc_0 rf_11_7_0 ?_
  refine V_aload_n (pc := 15) dX11_house_15 rfl rfl ?_
  refine V_getr (pc := 16) (t := 12) fk_X11_23 rfl dX11_house_16 kc_0 rf_11_2_0 ?_
  refine V_callVi (pc := 19) (As := [.ref (wB w + 12)]) (rest := []) (c_X5_tells w n 12 kc_12 q8.2) cw_X11_117 rfl rfl dX11_house_19 kc_51 ci_5 ⟨Nat.le_of_ble_eq_true rfl, Nat.le_of_ble_eq_true rfl⟩ rfl rfl (Nat.le_of_ble_eq_true rfl) (Nat.le_of_ble_eq_true rfl) (Nat.le_of_ble_eq_true rfl) rfl (fun q19 => ?_)
  refine V_istore_n (pc := 22) (vs' := [some (.ref (wB w + 0)), some (.int q19.1)]) dX11_house_22 rfl (Nat.le_of_ble_eq_true rfl) (Nat.le_of_ble_eq_true rfl) rfl ?_
  refine V_aload_n (pc := 23) dX11_house_23 rfl rfl ?_
  refine V_iload_n (pc := 24) dX11_house_24 rfl rfl ?_
  refine V_callVv (pc := 25) (As := [.int q19.1]) (rest := []) (c_X11_textWasRead w q19.1 q19.2) cw_X11_121 rfl rfl dX11_house_25 kc_0 ci_11 ⟨Nat.le_of_ble_eq_true rfl, Nat.le_of_ble_eq_true rfl⟩ rfl rfl (Nat.le_of_ble_eq_true rfl) (Nat.le_of_ble_eq_true rfl) (Nat.le_of_ble_eq_true rfl) rfl (fun q25 => ?_)
  refine V_iload_n (pc := 28) dX11_house_28 rfl rfl ?_
  refine V_if_ne (pc := 29) (tgt := 40) dX11_house_29 (by decide +kernel) ?_ ?_
  · refine V_aload_n (pc := 40) dX11_house_40 rfl rfl ?_
    refine V_getr (pc := 41) (t := 3) fk_X11_19 rfl dX11_house_41 kc_0 rf_11_1_0 ?_
    refine V_geti (pc := 44) fk_X11_128 rfl dX11_house_44 kc_3 rf_4_1_3 ?_
    refine V_bipush (pc := 47) dX11_house_47 bp_12 ?_
    refine V_icmp_lt (pc := 49) (tgt := 60) dX11_house_49 (by decide +kernel) ?_ ?_
    · refine V_aload_n (pc := 60) dX11_house_60 rfl rfl ?_
      refine V_getr (pc := 61) (t := 3) fk_X11_19 rfl dX11_house_61 kc_0 rf_11_1_0 ?_
      refine V_aload_n (pc := 64) dX11_house_64 rfl rfl ?_
      refine V_getr (pc := 65) (t := 12) fk_X11_23 rfl dX11_house_65 kc_0 rf_11_2_0 ?_
      refine V_callVv (pc := 68) (As := [.ref (wB w + 12)]) (rest := []) (c_X4_become w 3 12 kc_3 kc_12 q25.2) cw_X11_114 rfl rfl dX11_house_68 kc_3 ci_4 ⟨Nat.le_of_ble_eq_true rfl, Nat.le_of_ble_eq_true rfl⟩ rfl rfl (Nat.le_of_ble_eq_true rfl) (Nat.le_of_ble_eq_true rfl) (Nat.le_of_ble_eq_true rfl) rfl (fun q68 => ?_)
      refine V_aload_n (pc := 71) dX11_house_71 rfl rfl ?_
      refine V_getr (pc := 72) (t := 3) fk_X11_19 rfl dX11_house_72 kc_0 rf_11_1_0 ?_
      refine V_dup (pc := 75) dX11_house_75 rfl ?_
      refine V_geti (pc := 76) fk_X11_128 rfl dX11_house_76 kc_3 rf_4_1_3 ?_
      refine V_iconst (pc := 79) dX11_house_79 ic_1 ?_
      refine V_iadd (pc := 80) dX11_house_80 ?_
      refine V_puti (pc := 81) fp_X11_128 rfl dX11_house_81 kc_3 rf_4_1_3 (fun s81 => ?_)
      refine V_aload_n (pc := 84) dX11_house_84 rfl rfl ?_
      refine V_iconst (pc := 85) dX11_house_85 ic_0 ?_
      refine V_puti (pc := 86) fp_X11_134 rfl dX11_house_86 kc_0 rf_11_16_0 (fun s86 => ?_)
      refine V_aload_n (pc := 89) dX11_house_89 rfl rfl ?_
      refine V_getr (pc := 90) (t := 3) fk_X11_19 rfl dX11_house_90 kc_0 rf_11_1_0 ?_
      refine V_geti (pc := 93) fk_X11_128 rfl dX11_house_93 kc_3 rf_4_1_3 ?_
      exact VX_ireti (pc := 96) dX11_house_96 rfl (hk := fun h => h)
    · exact VX_throw (pc := 52) (e := 4) (names := ["java/lang/RuntimeException", "java/lang/Exception"]) hno rfl (by decide +kernel) (by decide +kernel) (by decide) tw_X11_131_133.1 tw_X11_131_133.2 dX11_house_52 dX11_house_55 dX11_house_56 dX11_house_59 (Nat.le_of_ble_eq_true rfl) (Nat.le_of_ble_eq_true rfl) (Nat.le_of_ble_eq_true rfl) (Nat.le_of_ble_eq_true rfl) (fun h => h)
  · exact VX_throw (pc := 32) (e := 1) (names := ["java/lang/RuntimeException", "java/lang/Exception"]) hno rfl (by decide +kernel) (by decide +kernel) (by decide) tw_X11_125_127.1 tw_X11_125_127.2 dX11_house_32 dX11_house_35 dX11_house_36 dX11_house_39 (Nat.le_of_ble_eq_true rfl) (Nat.le_of_ble_eq_true rfl) (Nat.le_of_ble_eq_true rfl) (Nat.le_of_ble_eq_true rfl) (fun h => h)
def f_X11_law (n : Nat)  (σ : MS) : Option (XRes) := ((f_X7_tells n 37 σ).bind (fun q8 => ((f_X11_textWasRead q8.1 q8.2).bind (fun q14 => (if q8.1 = 0 then some (.inr 1, q14.2) else ((f_X6_become 30 37 q14.2).bind (fun q37 => (ltM (mu q37.2 0 16 (0 : Int32)) (fun s42 => some (.inl (s42 30 0), s42))))))))))
set_option maxRecDepth 20000 in
set_option maxHeartbeats 2000000 in
theorem c_X11_law (w : TG) (n : Nat)  (σ : MS) : MX m_X11_law w [.ref (wB w + 0)] σ (f_X11_law n  σ) := by
  refine VX_meth (by decide +kernel) (Nat.le_of_ble_eq_true rfl) (by intro v hv; simp only [List.mem_cons, List.not_mem_nil, or_false] at hv; subst hv; rfl) (fun g x hno => ?_)
  show VV m_X11_law w g 0 0 (QX m_X11_law w g x) (fun b : XRes => b = x) 0 [some (.ref (wB w + 0)), none] [] σ (f_X11_law n  σ)
  refine V_aload_n (pc := 0) dX11_law_0 rfl rfl ?_
  refine V_getr (pc := 1) (t := 52) fk_X11_54 rfl dX11_law_1 kc_0 rf_11_8_0 ?_
  refine V_aload_n (pc := 4) dX11_law_4 rfl rfl ?_
  refine V_getr (pc := 5) (t := 37) fk_X11_36 rfl dX11_law_5 kc_0 rf_11_5_0 ?_
  refine V_callVi (pc := 8) (As := [.ref (wB w + 37)]) (rest := []) (c_X7_tells w n 37 kc_37 σ) cw_X11_137 rfl rfl dX11_law_8 kc_52 ci_7 ⟨Nat.le_of_ble_eq_true rfl, Nat.le_of_ble_eq_true rfl⟩ rfl rfl (Nat.le_of_ble_eq_true rfl) (Nat.le_of_ble_eq_true rfl) (Nat.le_of_ble_eq_true rfl) rfl (fun q8 => ?_)
  refine V_istore_n (pc := 11) (vs' := [some (.ref (wB w + 0)), some (.int q8.1)]) dX11_law_11 rfl (Nat.le_of_ble_eq_true rfl) (Nat.le_of_ble_eq_true rfl) rfl ?_
  refine V_aload_n (pc := 12) dX11_law_12 rfl rfl ?_
  refine V_iload_n (pc := 13) dX11_law_13 rfl rfl ?_
  refine V_callVv (pc := 14) (As := [.int q8.1]) (rest := []) (c_X11_textWasRead w q8.1 q8.2) cw_X11_121 rfl rfl dX11_law_14 kc_0 ci_11 ⟨Nat.le_of_ble_eq_true rfl, Nat.le_of_ble_eq_true rfl⟩ rfl rfl (Nat.le_of_ble_eq_true rfl) (Nat.le_of_ble_eq_true rfl) (Nat.le_of_ble_eq_true rfl) rfl (fun q14 => ?_)
  refine V_iload_n (pc := 17) dX11_law_17 rfl rfl ?_
  refine V_if_ne (pc := 18) (tgt := 29) dX11_law_18 (by decide +kernel) ?_ ?_
  · refine V_aload_n (pc := 29) dX11_law_29 rfl rfl ?_
    refine V_getr (pc := 30) (t := 30) fk_X11_32 rfl dX11_law_30 kc_0 rf_11_4_0 ?_
    refine V_aload_n (pc := 33) dX11_law_33 rfl rfl ?_
    refine V_getr (pc := 34) (t := 37) fk_X11_36 rfl dX11_law_34 kc_0 rf_11_5_0 ?_
    refine V_callVv (pc := 37) (As := [.ref (wB w + 37)]) (rest := []) (c_X6_become w 30 37 kc_30 kc_37 q14.2) cw_X11_140 rfl rfl dX11_law_37 kc_30 ci_6 ⟨Nat.le_of_ble_eq_true rfl, Nat.le_of_ble_eq_true rfl⟩ rfl rfl (Nat.le_of_ble_eq_true rfl) (Nat.le_of_ble_eq_true rfl) (Nat.le_of_ble_eq_true rfl) rfl (fun q37 => ?_)
    refine V_aload_n (pc := 40) dX11_law_40 rfl rfl ?_
    refine V_iconst (pc := 41) dX11_law_41 ic_0 ?_
    refine V_puti (pc := 42) fp_X11_134 rfl dX11_law_42 kc_0 rf_11_16_0 (fun s42 => ?_)
    refine V_aload_n (pc := 45) dX11_law_45 rfl rfl ?_
    refine V_getr (pc := 46) (t := 30) fk_X11_32 rfl dX11_law_46 kc_0 rf_11_4_0 ?_
    refine V_geti (pc := 49) fk_X11_143 rfl dX11_law_49 kc_30 rf_6_0_30 ?_
    exact VX_ireti (pc := 52) dX11_law_52 rfl (hk := fun h => h)
  · exact VX_throw (pc := 21) (e := 1) (names := ["java/lang/RuntimeException", "java/lang/Exception"]) hno rfl (by decide +kernel) (by decide +kernel) (by decide) tw_X11_125_127.1 tw_X11_125_127.2 dX11_law_21 dX11_law_24 dX11_law_25 dX11_law_28 (Nat.le_of_ble_eq_true rfl) (Nat.le_of_ble_eq_true rfl) (Nat.le_of_ble_eq_true rfl) (Nat.le_of_ble_eq_true rfl) (fun h => h)
def f_X11_fault  (σ : MS) : Option (Int32) := some (σ 0 18)
set_option maxRecDepth 20000 in
set_option maxHeartbeats 2000000 in
theorem c_X11_fault (w : TG)  (σ : MS) : MC m_X11_fault w [.ref (wB w + 0)] σ ((f_X11_fault  σ).map (fun r => (r, σ))) := by
  refine V_methp (by decide +kernel) (Nat.le_of_ble_eq_true rfl) (by intro v hv; simp only [List.mem_cons, List.not_mem_nil, or_false] at hv; subst hv; rfl) (fun g x => ?_)
  show VV m_X11_fault w g 0 0 (QM m_X11_fault w g x) (fun b : Int32 => (b, σ) = x) 0 [some (.ref (wB w + 0))] [] σ (f_X11_fault  σ)
  refine V_aload_n (pc := 0) dX11_fault_0 rfl rfl ?_
  refine V_geti (pc := 1) fk_X11_103 rfl dX11_fault_1 kc_0 rf_11_18_0 ?_
  exact V_ireti (pc := 4) dX11_fault_4 rfl (hk := fun h => h)
def f_X11_needPerson (p1 : Int32) (σ : MS) : Option (XRes) := ((f_X4_has 3 p1 σ).bind (fun q5 => (if q5 = 0 then some (.inr 0, σ) else some (.inl 0, σ))))
set_option maxRecDepth 20000 in
set_option maxHeartbeats 2000000 in
theorem c_X11_needPerson (w : TG) (p1 : Int32) (σ : MS) : MX m_X11_needPerson w [.ref (wB w + 0), .int p1] σ (f_X11_needPerson p1 σ) := by
  refine VX_meth (by decide +kernel) (Nat.le_of_ble_eq_true rfl) (by intro v hv; simp only [List.mem_cons, List.not_mem_nil, or_false] at hv; rcases hv with rfl | rfl <;> rfl) (fun g x hno => ?_)
  show VV m_X11_needPerson w g 0 0 (QX m_X11_needPerson w g x) (fun b : XRes => b = x) 0 [some (.ref (wB w + 0)), some (.int p1)] [] σ (f_X11_needPerson p1 σ)
  refine V_aload_n (pc := 0) dX11_needPerson_0 rfl rfl ?_
  refine V_getr (pc := 1) (t := 3) fk_X11_19 rfl dX11_needPerson_1 kc_0 rf_11_1_0 ?_
  refine V_iload_n (pc := 4) dX11_needPerson_4 rfl rfl ?_
  refine V_callVpi (pc := 5) (As := [.int p1]) (rest := []) (c_X4_has w 3 p1 kc_3 σ) cw_X11_376 rfl rfl dX11_needPerson_5 kc_3 ci_4 ⟨Nat.le_of_ble_eq_true rfl, Nat.le_of_ble_eq_true rfl⟩ rfl rfl (Nat.le_of_ble_eq_true rfl) (Nat.le_of_ble_eq_true rfl) (Nat.le_of_ble_eq_true rfl) rfl (fun q5 => ?_)
  refine V_if_ne (pc := 8) (tgt := 19) dX11_needPerson_8 (by decide +kernel) ?_ ?_
  · exact VX_ret (pc := 19) dX11_needPerson_19 rfl (hk := fun h => h)
  · exact VX_throw (pc := 11) (e := 0) (names := ["java/lang/RuntimeException", "java/lang/Exception"]) hno rfl (by decide +kernel) (by decide +kernel) (by decide) tw_X11_380_382.1 tw_X11_380_382.2 dX11_needPerson_11 dX11_needPerson_14 dX11_needPerson_15 dX11_needPerson_18 (Nat.le_of_ble_eq_true rfl) (Nat.le_of_ble_eq_true rfl) (Nat.le_of_ble_eq_true rfl) (Nat.le_of_ble_eq_true rfl) (fun h => h)
def f_X11_person (n : Nat) (p1 : Int32) (p2 : Int32) (σ : MS) : Option (XRes) := (thn (f_X11_needPerson p1 σ) (fun v2 s2 => (if p2 = (0 : Int32) then (if inb p1 8 then some (.inl (s2 4 (ix p1)), s2) else none) else (if p2 = (1 : Int32) then (if inb p1 8 then some (.inl (s2 5 (ix p1)), s2) else none) else (if p2 = (2 : Int32) then (if inb p1 8 then some (.inl (s2 6 (ix p1)), s2) else none) else (if p2 = (3 : Int32) then (if inb p1 8 then some (.inl (s2 7 (ix p1)), s2) else none) else (if p2 = (4 : Int32) then ((f_X4_boundTo n 3 p1 s2).bind (fun q97 => some (.inl q97, s2))) else (if p2 = (5 : Int32) then ((f_X10_around n p1 s2).bind (fun q106 => some (.inl q106, s2))) else (if p2 = (6 : Int32) then ((f_X8_gladder n p1 s2).bind (fun q115 => some (.inl q115, s2))) else (if p2 = (7 : Int32) then ((f_X4_closest n 3 p1 s2).bind (fun q124 => some (.inl q124, s2))) else some (.inr 2, s2)))))))))) (fun e s => some (.inr e, s)))
set_option maxRecDepth 20000 in
set_option maxHeartbeats 2000000 in
theorem c_X11_person (w : TG) (n : Nat) (p1 : Int32) (p2 : Int32) (σ : MS) : MX m_X11_person w [.ref (wB w + 0), .int p1, .int p2] σ (f_X11_person n p1 p2 σ) := by
  refine VX_meth (by decide +kernel) (Nat.le_of_ble_eq_true rfl) (by intro v hv; simp only [List.mem_cons, List.not_mem_nil, or_false] at hv; rcases hv with rfl | rfl | rfl <;> rfl) (fun g x hno => ?_)
  show VV m_X11_person w g 0 0 (QX m_X11_person w g x) (fun b : XRes => b = x) 0 [some (.ref (wB w + 0)), some (.int p1), some (.int p2)] [] σ (f_X11_person n p1 p2 σ)
  refine V_aload_n (pc := 0) dX11_person_0 rfl rfl ?_
  refine V_iload_n (pc := 1) dX11_person_1 rfl rfl ?_
  refine VX_call (pc := 2) (As := [.int p1]) (rest := []) hno (c_X11_needPerson w p1 σ) cw_X11_146 rfl dX11_person_2 kc_0 ci_11 ⟨Nat.le_of_ble_eq_true rfl, Nat.le_of_ble_eq_true rfl⟩ rfl rfl (Nat.le_of_ble_eq_true rfl) (Nat.le_of_ble_eq_true rfl) (Nat.le_of_ble_eq_true rfl) (fun e s b h k => by cases h; exact k) (fun v2 s2 => ?_)
  show VV m_X11_person w g 1 6 (QX m_X11_person w g x) (fun b : XRes => b = x) 5 [some (.ref (wB w + 0)), some (.int p1), some (.int p2)] [] s2 _
  refine V_iload_n (pc := 5) dX11_person_5 rfl rfl ?_
  refine V_ite (c := p2 = (0 : Int32)) (fun hx => ?_) (fun hx0 => ?_)
  · refine V_tabIn (pc := 6) (x := p2) (tgt := 52) dX11_person_6 (by rw [hx]; decide) (by rw [hx]; decide) (by rw [hx]; rfl) (by decide) ?_
    refine V_aload_n (pc := 52) dX11_person_52 rfl rfl ?_
    refine V_getr (pc := 53) (t := 3) fk_X11_19 rfl dX11_person_53 kc_0 rf_11_1_0 ?_
    refine V_getr (pc := 56) (t := 4) fk_X11_149 rfl dX11_person_56 kc_3 rf_4_8_3 ?_
    refine V_iload_n (pc := 59) dX11_person_59 rfl rfl ?_
    refine V_iald (pc := 60) (n := 8) dX11_person_60 kc_4 lc_4 ?_
    exact VX_ireti (pc := 61) dX11_person_61 rfl (hk := fun h => h)
  refine V_ite (c := p2 = (1 : Int32)) (fun hx => ?_) (fun hx1 => ?_)
  · refine V_tabIn (pc := 6) (x := p2) (tgt := 62) dX11_person_6 (by rw [hx]; decide) (by rw [hx]; decide) (by rw [hx]; rfl) (by decide) ?_
    refine V_aload_n (pc := 62) dX11_person_62 rfl rfl ?_
    refine V_getr (pc := 63) (t := 3) fk_X11_19 rfl dX11_person_63 kc_0 rf_11_1_0 ?_
    refine V_getr (pc := 66) (t := 5) fk_X11_153 rfl dX11_person_66 kc_3 rf_4_9_3 ?_
    refine V_iload_n (pc := 69) dX11_person_69 rfl rfl ?_
    refine V_iald (pc := 70) (n := 8) dX11_person_70 kc_5 lc_5 ?_
    exact VX_ireti (pc := 71) dX11_person_71 rfl (hk := fun h => h)
  refine V_ite (c := p2 = (2 : Int32)) (fun hx => ?_) (fun hx2 => ?_)
  · refine V_tabIn (pc := 6) (x := p2) (tgt := 72) dX11_person_6 (by rw [hx]; decide) (by rw [hx]; decide) (by rw [hx]; rfl) (by decide) ?_
    refine V_aload_n (pc := 72) dX11_person_72 rfl rfl ?_
    refine V_getr (pc := 73) (t := 3) fk_X11_19 rfl dX11_person_73 kc_0 rf_11_1_0 ?_
    refine V_getr (pc := 76) (t := 6) fk_X11_156 rfl dX11_person_76 kc_3 rf_4_10_3 ?_
    refine V_iload_n (pc := 79) dX11_person_79 rfl rfl ?_
    refine V_iald (pc := 80) (n := 8) dX11_person_80 kc_6 lc_6 ?_
    exact VX_ireti (pc := 81) dX11_person_81 rfl (hk := fun h => h)
  refine V_ite (c := p2 = (3 : Int32)) (fun hx => ?_) (fun hx3 => ?_)
  · refine V_tabIn (pc := 6) (x := p2) (tgt := 82) dX11_person_6 (by rw [hx]; decide) (by rw [hx]; decide) (by rw [hx]; rfl) (by decide) ?_
    refine V_aload_n (pc := 82) dX11_person_82 rfl rfl ?_
    refine V_getr (pc := 83) (t := 3) fk_X11_19 rfl dX11_person_83 kc_0 rf_11_1_0 ?_
    refine V_getr (pc := 86) (t := 7) fk_X11_159 rfl dX11_person_86 kc_3 rf_4_11_3 ?_
    refine V_iload_n (pc := 89) dX11_person_89 rfl rfl ?_
    refine V_iald (pc := 90) (n := 8) dX11_person_90 kc_7 lc_7 ?_
    exact VX_ireti (pc := 91) dX11_person_91 rfl (hk := fun h => h)
  refine V_ite (c := p2 = (4 : Int32)) (fun hx => ?_) (fun hx4 => ?_)
  · refine V_tabIn (pc := 6) (x := p2) (tgt := 92) dX11_person_6 (by rw [hx]; decide) (by rw [hx]; decide) (by rw [hx]; rfl) (by decide) ?_
    refine V_aload_n (pc := 92) dX11_person_92 rfl rfl ?_
    refine V_getr (pc := 93) (t := 3) fk_X11_19 rfl dX11_person_93 kc_0 rf_11_1_0 ?_
    refine V_iload_n (pc := 96) dX11_person_96 rfl rfl ?_
    refine V_callVpi (pc := 97) (As := [.int p1]) (rest := []) (c_X4_boundTo w n 3 p1 kc_3 s2) cw_X11_162 rfl rfl dX11_person_97 kc_3 ci_4 ⟨Nat.le_of_ble_eq_true rfl, Nat.le_of_ble_eq_true rfl⟩ rfl rfl (Nat.le_of_ble_eq_true rfl) (Nat.le_of_ble_eq_true rfl) (Nat.le_of_ble_eq_true rfl) rfl (fun q97 => ?_)
    exact VX_ireti (pc := 100) dX11_person_100 rfl (hk := fun h => h)
  refine V_ite (c := p2 = (5 : Int32)) (fun hx => ?_) (fun hx5 => ?_)
  · refine V_tabIn (pc := 6) (x := p2) (tgt := 101) dX11_person_6 (by rw [hx]; decide) (by rw [hx]; decide) (by rw [hx]; rfl) (by decide) ?_
    refine V_aload_n (pc := 101) dX11_person_101 rfl rfl ?_
    refine V_getr (pc := 102) (t := 55) fk_X11_72 rfl dX11_person_102 kc_0 rf_11_10_0 ?_
    refine V_iload_n (pc := 105) dX11_person_105 rfl rfl ?_
    refine V_callVpi (pc := 106) (As := [.int p1]) (rest := []) (c_X10_around w n p1 s2) cw_X11_166 rfl rfl dX11_person_106 kc_55 ci_10 ⟨Nat.le_of_ble_eq_true rfl, Nat.le_of_ble_eq_true rfl⟩ rfl rfl (Nat.le_of_ble_eq_true rfl) (Nat.le_of_ble_eq_true rfl) (Nat.le_of_ble_eq_true rfl) rfl (fun q106 => ?_)
    exact VX_ireti (pc := 109) dX11_person_109 rfl (hk := fun h => h)
  refine V_ite (c := p2 = (6 : Int32)) (fun hx => ?_) (fun hx6 => ?_)
  · refine V_tabIn (pc := 6) (x := p2) (tgt := 110) dX11_person_6 (by rw [hx]; decide) (by rw [hx]; decide) (by rw [hx]; rfl) (by decide) ?_
    refine V_aload_n (pc := 110) dX11_person_110 rfl rfl ?_
    refine V_getr (pc := 111) (t := 56) fk_X11_79 rfl dX11_person_111 kc_0 rf_11_11_0 ?_
    refine V_iload_n (pc := 114) dX11_person_114 rfl rfl ?_
    refine V_callVpi (pc := 115) (As := [.int p1]) (rest := []) (c_X8_gladder w n p1 s2) cw_X11_169 rfl rfl dX11_person_115 kc_56 ci_8 ⟨Nat.le_of_ble_eq_true rfl, Nat.le_of_ble_eq_true rfl⟩ rfl rfl (Nat.le_of_ble_eq_true rfl) (Nat.le_of_ble_eq_true rfl) (Nat.le_of_ble_eq_true rfl) rfl (fun q115 => ?_)
    exact VX_ireti (pc := 118) dX11_person_118 rfl (hk := fun h => h)
  refine V_ite (c := p2 = (7 : Int32)) (fun hx => ?_) (fun hx7 => ?_)
  · refine V_tabIn (pc := 6) (x := p2) (tgt := 119) dX11_person_6 (by rw [hx]; decide) (by rw [hx]; decide) (by rw [hx]; rfl) (by decide) ?_
    refine V_aload_n (pc := 119) dX11_person_119 rfl rfl ?_
    refine V_getr (pc := 120) (t := 3) fk_X11_19 rfl dX11_person_120 kc_0 rf_11_1_0 ?_
    refine V_iload_n (pc := 123) dX11_person_123 rfl rfl ?_
    refine V_callVpi (pc := 124) (As := [.int p1]) (rest := []) (c_X4_closest w n 3 p1 kc_3 s2) cw_X11_172 rfl rfl dX11_person_124 kc_3 ci_4 ⟨Nat.le_of_ble_eq_true rfl, Nat.le_of_ble_eq_true rfl⟩ rfl rfl (Nat.le_of_ble_eq_true rfl) (Nat.le_of_ble_eq_true rfl) (Nat.le_of_ble_eq_true rfl) rfl (fun q124 => ?_)
    exact VX_ireti (pc := 127) dX11_person_127 rfl (hk := fun h => h)
  refine V_tabOut (pc := 6) (tgt := 128) dX11_person_6 (tabout p2 0 7 (by decide) (by decide) (fun k h1 h2 => ?_)) (by decide) ?_
  · rcases (show k = 0 ∨ k = 1 ∨ k = 2 ∨ k = 3 ∨ k = 4 ∨ k = 5 ∨ k = 6 ∨ k = 7 by omega) with rfl | rfl | rfl | rfl | rfl | rfl | rfl | rfl
    · exact hx0
    · exact hx1
    · exact hx2
    · exact hx3
    · exact hx4
    · exact hx5
    · exact hx6
    · exact hx7
  · exact VX_throw (pc := 128) (e := 2) (names := ["java/lang/RuntimeException", "java/lang/Exception"]) hno rfl (by decide +kernel) (by decide +kernel) (by decide) tw_X11_175_177.1 tw_X11_175_177.2 dX11_person_128 dX11_person_131 dX11_person_132 dX11_person_135 (Nat.le_of_ble_eq_true rfl) (Nat.le_of_ble_eq_true rfl) (Nat.le_of_ble_eq_true rfl) (Nat.le_of_ble_eq_true rfl) (fun h => h)
def f_X11_needTwo (p1 : Int32) (p2 : Int32) (σ : MS) : Option (XRes) := (thn (f_X11_needPerson p1 σ) (fun v2 s2 => (thn (f_X11_needPerson p2 s2) (fun v7 s7 => (if p1 = p2 then some (.inr 1, s7) else some (.inl 0, s7))) (fun e s => some (.inr e, s)))) (fun e s => some (.inr e, s)))
set_option maxRecDepth 20000 in
set_option maxHeartbeats 2000000 in
theorem c_X11_needTwo (w : TG) (p1 : Int32) (p2 : Int32) (σ : MS) : MX m_X11_needTwo w [.ref (wB w + 0), .int p1, .int p2] σ (f_X11_needTwo p1 p2 σ) := by
  refine VX_meth (by decide +kernel) (Nat.le_of_ble_eq_true rfl) (by intro v hv; simp only [List.mem_cons, List.not_mem_nil, or_false] at hv; rcases hv with rfl | rfl | rfl <;> rfl) (fun g x hno => ?_)
  show VV m_X11_needTwo w g 0 0 (QX m_X11_needTwo w g x) (fun b : XRes => b = x) 0 [some (.ref (wB w + 0)), some (.int p1), some (.int p2)] [] σ (f_X11_needTwo p1 p2 σ)
  refine V_aload_n (pc := 0) dX11_needTwo_0 rfl rfl ?_
  refine V_iload_n (pc := 1) dX11_needTwo_1 rfl rfl ?_
  refine VX_call (pc := 2) (As := [.int p1]) (rest := []) hno (c_X11_needPerson w p1 σ) cw_X11_146 rfl dX11_needTwo_2 kc_0 ci_11 ⟨Nat.le_of_ble_eq_true rfl, Nat.le_of_ble_eq_true rfl⟩ rfl rfl (Nat.le_of_ble_eq_true rfl) (Nat.le_of_ble_eq_true rfl) (Nat.le_of_ble_eq_true rfl) (fun e s b h k => by cases h; exact k) (fun v2 s2 => ?_)
  show VV m_X11_needTwo w g 1 6 (QX m_X11_needTwo w g x) (fun b : XRes => b = x) 5 [some (.ref (wB w + 0)), some (.int p1), some (.int p2)] [] s2 _
  refine V_aload_n (pc := 5) dX11_needTwo_5 rfl rfl ?_
  refine V_iload_n (pc := 6) dX11_needTwo_6 rfl rfl ?_
  refine VX_call (pc := 7) (As := [.int p2]) (rest := []) hno (c_X11_needPerson w p2 s2) cw_X11_146 rfl dX11_needTwo_7 kc_0 ci_11 ⟨Nat.le_of_ble_eq_true rfl, Nat.le_of_ble_eq_true rfl⟩ rfl rfl (Nat.le_of_ble_eq_true rfl) (Nat.le_of_ble_eq_true rfl) (Nat.le_of_ble_eq_true rfl) (fun e s b h k => by cases h; exact k) (fun v7 s7 => ?_)
  show VV m_X11_needTwo w g 2 12 (QX m_X11_needTwo w g x) (fun b : XRes => b = x) 10 [some (.ref (wB w + 0)), some (.int p1), some (.int p2)] [] s7 _
  refine V_iload_n (pc := 10) dX11_needTwo_10 rfl rfl ?_
  refine V_iload_n (pc := 11) dX11_needTwo_11 rfl rfl ?_
  refine V_icmp_ne (pc := 12) (tgt := 23) dX11_needTwo_12 (by decide +kernel) ?_ ?_
  · exact VX_ret (pc := 23) dX11_needTwo_23 rfl (hk := fun h => h)
  · exact VX_throw (pc := 15) (e := 1) (names := ["java/lang/RuntimeException", "java/lang/Exception"]) hno rfl (by decide +kernel) (by decide +kernel) (by decide) tw_X11_125_127.1 tw_X11_125_127.2 dX11_needTwo_15 dX11_needTwo_18 dX11_needTwo_19 dX11_needTwo_22 (Nat.le_of_ble_eq_true rfl) (Nat.le_of_ble_eq_true rfl) (Nat.le_of_ble_eq_true rfl) (Nat.le_of_ble_eq_true rfl) (fun h => h)
def f_X11_liking (p1 : Int32) (p2 : Int32) (σ : MS) : Option (XRes) := (thn (f_X11_needTwo p1 p2 σ) (fun v3 s3 => ((f_X4_likingOf 3 p1 p2 s3).bind (fun q12 => some (.inl q12, s3)))) (fun e s => some (.inr e, s)))
set_option maxRecDepth 20000 in
set_option maxHeartbeats 2000000 in
theorem c_X11_liking (w : TG) (p1 : Int32) (p2 : Int32) (σ : MS) : MX m_X11_liking w [.ref (wB w + 0), .int p1, .int p2] σ (f_X11_liking p1 p2 σ) := by
  refine VX_meth (by decide +kernel) (Nat.le_of_ble_eq_true rfl) (by intro v hv; simp only [List.mem_cons, List.not_mem_nil, or_false] at hv; rcases hv with rfl | rfl | rfl <;> rfl) (fun g x hno => ?_)
  show VV m_X11_liking w g 0 0 (QX m_X11_liking w g x) (fun b : XRes => b = x) 0 [some (.ref (wB w + 0)), some (.int p1), some (.int p2)] [] σ (f_X11_liking p1 p2 σ)
  refine V_aload_n (pc := 0) dX11_liking_0 rfl rfl ?_
  refine V_iload_n (pc := 1) dX11_liking_1 rfl rfl ?_
  refine V_iload_n (pc := 2) dX11_liking_2 rfl rfl ?_
  refine VX_call (pc := 3) (As := [.int p1, .int p2]) (rest := []) hno (c_X11_needTwo w p1 p2 σ) cw_X11_178 rfl dX11_liking_3 kc_0 ci_11 ⟨Nat.le_of_ble_eq_true rfl, Nat.le_of_ble_eq_true rfl⟩ rfl rfl (Nat.le_of_ble_eq_true rfl) (Nat.le_of_ble_eq_true rfl) (Nat.le_of_ble_eq_true rfl) (fun e s b h k => by cases h; exact k) (fun v3 s3 => ?_)
  show VV m_X11_liking w g 3 18 (QX m_X11_liking w g x) (fun b : XRes => b = x) 6 [some (.ref (wB w + 0)), some (.int p1), some (.int p2)] [] s3 _
  refine V_aload_n (pc := 6) dX11_liking_6 rfl rfl ?_
  refine V_getr (pc := 7) (t := 3) fk_X11_19 rfl dX11_liking_7 kc_0 rf_11_1_0 ?_
  refine V_iload_n (pc := 10) dX11_liking_10 rfl rfl ?_
  refine V_iload_n (pc := 11) dX11_liking_11 rfl rfl ?_
  refine V_callVpi (pc := 12) (As := [.int p1, .int p2]) (rest := []) (c_X4_likingOf w 3 p1 p2 kc_3 s3) cw_X11_182 rfl rfl dX11_liking_12 kc_3 ci_4 ⟨Nat.le_of_ble_eq_true rfl, Nat.le_of_ble_eq_true rfl⟩ rfl rfl (Nat.le_of_ble_eq_true rfl) (Nat.le_of_ble_eq_true rfl) (Nat.le_of_ble_eq_true rfl) rfl (fun q12 => ?_)
  exact VX_ireti (pc := 15) dX11_liking_15 rfl (hk := fun h => h)
def J_X11_bond_31 (t0 : Int32) (σ : MS) : Option (XRes) := some (.inl t0, σ)
def f_X11_bond (p1 : Int32) (p2 : Int32) (p3 : Int32) (σ : MS) : Option (XRes) := (thn (f_X11_needTwo p1 p2 σ) (fun v3 s3 => (if p3 = 0 then ((f_X4_held 3 p1 p2 s3).bind (fun q28 => J_X11_bond_31 q28 s3)) else ((f_X4_heldTill 3 p1 p2 s3).bind (fun q16 => J_X11_bond_31 q16 s3)))) (fun e s => some (.inr e, s)))
set_option maxRecDepth 20000 in
set_option maxHeartbeats 2000000 in
theorem c_X11_bond (w : TG) (p1 : Int32) (p2 : Int32) (p3 : Int32) (σ : MS) : MX m_X11_bond w [.ref (wB w + 0), .int p1, .int p2, .int p3] σ (f_X11_bond p1 p2 p3 σ) := by
  refine VX_meth (by decide +kernel) (Nat.le_of_ble_eq_true rfl) (by intro v hv; simp only [List.mem_cons, List.not_mem_nil, or_false] at hv; rcases hv with rfl | rfl | rfl | rfl <;> rfl) (fun g x hno => ?_)
  show VV m_X11_bond w g 0 0 (QX m_X11_bond w g x) (fun b : XRes => b = x) 0 [some (.ref (wB w + 0)), some (.int p1), some (.int p2), some (.int p3)] [] σ (f_X11_bond p1 p2 p3 σ)
  have hJ31 : ∀ (t0 : Int32) (σ : MS), VV m_X11_bond w g 3 18 (QX m_X11_bond w g x) (fun b : XRes => b = x) 31 [none, none, none, none] [.int t0] σ (J_X11_bond_31 t0 σ) := by
    intro t0 σ
    exact VX_ireti (pc := 31) dX11_bond_31 rfl (hk := fun h => h)
  refine V_aload_n (pc := 0) dX11_bond_0 rfl rfl ?_
  refine V_iload_n (pc := 1) dX11_bond_1 rfl rfl ?_
  refine V_iload_n (pc := 2) dX11_bond_2 rfl rfl ?_
  refine VX_call (pc := 3) (As := [.int p1, .int p2]) (rest := []) hno (c_X11_needTwo w p1 p2 σ) cw_X11_178 rfl dX11_bond_3 kc_0 ci_11 ⟨Nat.le_of_ble_eq_true rfl, Nat.le_of_ble_eq_true rfl⟩ rfl rfl (Nat.le_of_ble_eq_true rfl) (Nat.le_of_ble_eq_true rfl) (Nat.le_of_ble_eq_true rfl) (fun e s b h k => by cases h; exact k) (fun v3 s3 => ?_)
  show VV m_X11_bond w g 3 18 (QX m_X11_bond w g x) (fun b : XRes => b = x) 6 [some (.ref (wB w + 0)), some (.int p1), some (.int p2), some (.int p3)] [] s3 _
  refine V_iload_n (pc := 6) dX11_bond_6 rfl rfl ?_
  refine V_if_eq (pc := 7) (tgt := 22) dX11_bond_7 (by decide +kernel) ?_ ?_
  · refine V_aload_n (pc := 22) dX11_bond_22 rfl rfl ?_
    refine V_getr (pc := 23) (t := 3) fk_X11_19 rfl dX11_bond_23 kc_0 rf_11_1_0 ?_
    refine V_iload_n (pc := 26) dX11_bond_26 rfl rfl ?_
    refine V_iload_n (pc := 27) dX11_bond_27 rfl rfl ?_
    refine V_callVpi (pc := 28) (As := [.int p1, .int p2]) (rest := []) (c_X4_held w 3 p1 p2 kc_3 s3) cw_X11_189 rfl rfl dX11_bond_28 kc_3 ci_4 ⟨Nat.le_of_ble_eq_true rfl, Nat.le_of_ble_eq_true rfl⟩ rfl rfl (Nat.le_of_ble_eq_true rfl) (Nat.le_of_ble_eq_true rfl) (Nat.le_of_ble_eq_true rfl) rfl (fun q28 => ?_)
    refine V_widen (kc' := 3) (ks' := 18) (Nat.le_of_ble_eq_true rfl) (Nat.le_of_ble_eq_true rfl) ?_
    refine V_sub (vs' := [none, none, none, none]) (show vless _ _ from trivial) rfl ?_
    exact hJ31 q28 s3
  · refine V_aload_n (pc := 10) dX11_bond_10 rfl rfl ?_
    refine V_getr (pc := 11) (t := 3) fk_X11_19 rfl dX11_bond_11 kc_0 rf_11_1_0 ?_
    refine V_iload_n (pc := 14) dX11_bond_14 rfl rfl ?_
    refine V_iload_n (pc := 15) dX11_bond_15 rfl rfl ?_
    refine V_callVpi (pc := 16) (As := [.int p1, .int p2]) (rest := []) (c_X4_heldTill w 3 p1 p2 kc_3 s3) cw_X11_186 rfl rfl dX11_bond_16 kc_3 ci_4 ⟨Nat.le_of_ble_eq_true rfl, Nat.le_of_ble_eq_true rfl⟩ rfl rfl (Nat.le_of_ble_eq_true rfl) (Nat.le_of_ble_eq_true rfl) (Nat.le_of_ble_eq_true rfl) rfl (fun q16 => ?_)
    refine V_goto (pc := 19) (tgt := 31) dX11_bond_19 (by decide +kernel) ?_
    refine V_widen (kc' := 3) (ks' := 18) (Nat.le_of_ble_eq_true rfl) (Nat.le_of_ble_eq_true rfl) ?_
    refine V_sub (vs' := [none, none, none, none]) (show vless _ _ from trivial) rfl ?_
    exact hJ31 q16 s3
def J_X11_needNumber_10  (σ : MS) : Option (XRes) := some (.inr 1, σ)
def f_X11_needNumber (p1 : Int32) (p2 : Int32) (p3 : Int32) (σ : MS) : Option (XRes) := (if p1 < p2 then J_X11_needNumber_10  σ else (if p1 ≤ p3 then some (.inl 0, σ) else J_X11_needNumber_10  σ))
set_option maxRecDepth 20000 in
set_option maxHeartbeats 2000000 in
theorem c_X11_needNumber (w : TG) (p1 : Int32) (p2 : Int32) (p3 : Int32) (σ : MS) : MX m_X11_needNumber w [.ref (wB w + 0), .int p1, .int p2, .int p3] σ (f_X11_needNumber p1 p2 p3 σ) := by
  refine VX_meth (by decide +kernel) (Nat.le_of_ble_eq_true rfl) (by intro v hv; simp only [List.mem_cons, List.not_mem_nil, or_false] at hv; rcases hv with rfl | rfl | rfl | rfl <;> rfl) (fun g x hno => ?_)
  show VV m_X11_needNumber w g 0 0 (QX m_X11_needNumber w g x) (fun b : XRes => b = x) 0 [some (.ref (wB w + 0)), some (.int p1), some (.int p2), some (.int p3)] [] σ (f_X11_needNumber p1 p2 p3 σ)
  have hJ10 : ∀ (σ : MS), VV m_X11_needNumber w g 0 0 (QX m_X11_needNumber w g x) (fun b : XRes => b = x) 10 [none, none, none, none] [] σ (J_X11_needNumber_10  σ) := by
    intro σ
    exact VX_throw (pc := 10) (e := 1) (names := ["java/lang/RuntimeException", "java/lang/Exception"]) hno rfl (by decide +kernel) (by decide +kernel) (by decide) tw_X11_125_127.1 tw_X11_125_127.2 dX11_needNumber_10 dX11_needNumber_13 dX11_needNumber_14 dX11_needNumber_17 (Nat.le_of_ble_eq_true rfl) (Nat.le_of_ble_eq_true rfl) (Nat.le_of_ble_eq_true rfl) (Nat.le_of_ble_eq_true rfl) (fun h => h)
  refine V_iload_n (pc := 0) dX11_needNumber_0 rfl rfl ?_
  refine V_iload_n (pc := 1) dX11_needNumber_1 rfl rfl ?_
  refine V_icmp_lt (pc := 2) (tgt := 10) dX11_needNumber_2 (by decide +kernel) ?_ ?_
  · refine V_widen (kc' := 0) (ks' := 0) (Nat.le_of_ble_eq_true rfl) (Nat.le_of_ble_eq_true rfl) ?_
    refine V_sub (vs' := [none, none, none, none]) (show vless _ _ from trivial) rfl ?_
    exact hJ10 σ
  · refine V_iload_n (pc := 5) dX11_needNumber_5 rfl rfl ?_
    refine V_iload_n (pc := 6) dX11_needNumber_6 rfl rfl ?_
    refine V_icmp_le (pc := 7) (tgt := 18) dX11_needNumber_7 (by decide +kernel) ?_ ?_
    · exact VX_ret (pc := 18) dX11_needNumber_18 rfl (hk := fun h => h)
    · refine V_widen (kc' := 0) (ks' := 0) (Nat.le_of_ble_eq_true rfl) (Nat.le_of_ble_eq_true rfl) ?_
      refine V_sub (vs' := [none, none, none, none]) (show vless _ _ from trivial) rfl ?_
      exact hJ10 σ
def f_X11_told (n : Nat) (p1 : Int32) (p2 : Int32) (p3 : Int32) (p4 : Int32) (p5 : Int32) (σ : MS) : Option (XRes) := (thn (f_X11_needTwo p1 p2 σ) (fun v3 s3 => (thn (f_X11_needNumber p3 (0 : Int32) (3 : Int32) s3) (fun v10 s10 => (thn (f_X11_needNumber p4 (2 : Int32) (8 : Int32) s10) (fun v19 s19 => (if p5 = (0 : Int32) then ((f_X6_bindsBy n 30 3 (mnI p1 p2) (mxI p1 p2) p3 p4 s19).bind (fun q79 => some (.inl q79.1, q79.2))) else (if p5 = (1 : Int32) then ((f_X6_lastsFor n 30 3 (mnI p1 p2) (mxI p1 p2) p3 p4 s19).bind (fun q98 => some (.inl q98.1, q98.2))) else (if p5 = (2 : Int32) then ((f_X6_suspectsBy n 30 3 (mnI p1 p2) (mxI p1 p2) s19).bind (fun q114 => some (.inl q114.1, q114.2))) else some (.inr 2, s19))))) (fun e s => some (.inr e, s)))) (fun e s => some (.inr e, s)))) (fun e s => some (.inr e, s)))
set_option maxRecDepth 20000 in
set_option maxHeartbeats 2000000 in
theorem c_X11_told (w : TG) (n : Nat) (p1 : Int32) (p2 : Int32) (p3 : Int32) (p4 : Int32) (p5 : Int32) (σ : MS) : MX m_X11_told w [.ref (wB w + 0), .int p1, .int p2, .int p3, .int p4, .int p5] σ (f_X11_told n p1 p2 p3 p4 p5 σ) := by
  refine VX_meth (by decide +kernel) (Nat.le_of_ble_eq_true rfl) (by intro v hv; simp only [List.mem_cons, List.not_mem_nil, or_false] at hv; rcases hv with rfl | rfl | rfl | rfl | rfl | rfl <;> rfl) (fun g x hno => ?_)
  show VV m_X11_told w g 0 0 (QX m_X11_told w g x) (fun b : XRes => b = x) 0 [some (.ref (wB w + 0)), some (.int p1), some (.int p2), some (.int p3), some (.int p4), some (.int p5), none, none] [] σ (f_X11_told n p1 p2 p3 p4 p5 σ)
  refine V_aload_n (pc := 0) dX11_told_0 rfl rfl ?_
  refine V_iload_n (pc := 1) dX11_told_1 rfl rfl ?_
  refine V_iload_n (pc := 2) dX11_told_2 rfl rfl ?_
  refine VX_call (pc := 3) (As := [.int p1, .int p2]) (rest := []) hno (c_X11_needTwo w p1 p2 σ) cw_X11_178 rfl dX11_told_3 kc_0 ci_11 ⟨Nat.le_of_ble_eq_true rfl, Nat.le_of_ble_eq_true rfl⟩ rfl rfl (Nat.le_of_ble_eq_true rfl) (Nat.le_of_ble_eq_true rfl) (Nat.le_of_ble_eq_true rfl) (fun e s b h k => by cases h; exact k) (fun v3 s3 => ?_)
  show VV m_X11_told w g 3 18 (QX m_X11_told w g x) (fun b : XRes => b = x) 6 [some (.ref (wB w + 0)), some (.int p1), some (.int p2), some (.int p3), some (.int p4), some (.int p5), none, none] [] s3 _
  refine V_aload_n (pc := 6) dX11_told_6 rfl rfl ?_
  refine V_iload_n (pc := 7) dX11_told_7 rfl rfl ?_
  refine V_iconst (pc := 8) dX11_told_8 ic_0 ?_
  refine V_iconst (pc := 9) dX11_told_9 ic_3 ?_
  refine VX_call (pc := 10) (As := [.int p3, .int (0 : Int32), .int (3 : Int32)]) (rest := []) hno (c_X11_needNumber w p3 (0 : Int32) (3 : Int32) s3) cw_X11_192 rfl dX11_told_10 kc_0 ci_11 ⟨Nat.le_of_ble_eq_true rfl, Nat.le_of_ble_eq_true rfl⟩ rfl rfl (Nat.le_of_ble_eq_true rfl) (Nat.le_of_ble_eq_true rfl) (Nat.le_of_ble_eq_true rfl) (fun e s b h k => by cases h; exact k) (fun v10 s10 => ?_)
  show VV m_X11_told w g 4 24 (QX m_X11_told w g x) (fun b : XRes => b = x) 13 [some (.ref (wB w + 0)), some (.int p1), some (.int p2), some (.int p3), some (.int p4), some (.int p5), none, none] [] s10 _
  refine V_aload_n (pc := 13) dX11_told_13 rfl rfl ?_
  refine V_iload (pc := 14) dX11_told_14 rfl ?_
  refine V_iconst (pc := 16) dX11_told_16 ic_2 ?_
  refine V_bipush (pc := 17) dX11_told_17 bp_8 ?_
  refine VX_call (pc := 19) (As := [.int p4, .int (2 : Int32), .int (8 : Int32)]) (rest := []) hno (c_X11_needNumber w p4 (2 : Int32) (8 : Int32) s10) cw_X11_192 rfl dX11_told_19 kc_0 ci_11 ⟨Nat.le_of_ble_eq_true rfl, Nat.le_of_ble_eq_true rfl⟩ rfl rfl (Nat.le_of_ble_eq_true rfl) (Nat.le_of_ble_eq_true rfl) (Nat.le_of_ble_eq_true rfl) (fun e s b h k => by cases h; exact k) (fun v19 s19 => ?_)
  show VV m_X11_told w g 5 30 (QX m_X11_told w g x) (fun b : XRes => b = x) 22 [some (.ref (wB w + 0)), some (.int p1), some (.int p2), some (.int p3), some (.int p4), some (.int p5), none, none] [] s19 _
  refine V_iload_n (pc := 22) dX11_told_22 rfl rfl ?_
  refine V_iload_n (pc := 23) dX11_told_23 rfl rfl ?_
  refine V_mmin (pc := 24) dX11_told_24 rfl mw_X11_196 (Nat.le_of_ble_eq_true rfl) (Nat.le_of_ble_eq_true rfl) (Nat.le_of_ble_eq_true rfl) (Nat.le_of_ble_eq_true rfl) ?_
  refine V_istore (pc := 27) (vs' := [some (.ref (wB w + 0)), some (.int p1), some (.int p2), some (.int p3), some (.int p4), some (.int p5), some (.int (mnI p1 p2)), none]) dX11_told_27 (Nat.le_of_ble_eq_true rfl) (Nat.le_of_ble_eq_true rfl) rfl ?_
  refine V_iload_n (pc := 29) dX11_told_29 rfl rfl ?_
  refine V_iload_n (pc := 30) dX11_told_30 rfl rfl ?_
  refine V_mmax (pc := 31) dX11_told_31 rfl mw_X11_201 (Nat.le_of_ble_eq_true rfl) (Nat.le_of_ble_eq_true rfl) (Nat.le_of_ble_eq_true rfl) (Nat.le_of_ble_eq_true rfl) ?_
  refine V_istore (pc := 34) (vs' := [some (.ref (wB w + 0)), some (.int p1), some (.int p2), some (.int p3), some (.int p4), some (.int p5), some (.int (mnI p1 p2)), some (.int (mxI p1 p2))]) dX11_told_34 (Nat.le_of_ble_eq_true rfl) (Nat.le_of_ble_eq_true rfl) rfl ?_
  refine V_iload (pc := 36) dX11_told_36 rfl ?_
  refine V_ite (c := p5 = (0 : Int32)) (fun hx => ?_) (fun hx0 => ?_)
  · refine V_tabIn (pc := 38) (x := p5) (tgt := 64) dX11_told_38 (by rw [hx]; decide) (by rw [hx]; decide) (by rw [hx]; rfl) (by decide) ?_
    refine V_aload_n (pc := 64) dX11_told_64 rfl rfl ?_
    refine V_getr (pc := 65) (t := 30) fk_X11_32 rfl dX11_told_65 kc_0 rf_11_4_0 ?_
    refine V_aload_n (pc := 68) dX11_told_68 rfl rfl ?_
    refine V_getr (pc := 69) (t := 3) fk_X11_19 rfl dX11_told_69 kc_0 rf_11_1_0 ?_
    refine V_iload (pc := 72) dX11_told_72 rfl ?_
    refine V_iload (pc := 74) dX11_told_74 rfl ?_
    refine V_iload_n (pc := 76) dX11_told_76 rfl rfl ?_
    refine V_iload (pc := 77) dX11_told_77 rfl ?_
    refine V_callVi (pc := 79) (As := [.ref (wB w + 3), .int (mnI p1 p2), .int (mxI p1 p2), .int p3, .int p4]) (rest := []) (c_X6_bindsBy w n 30 3 (mnI p1 p2) (mxI p1 p2) p3 p4 kc_30 kc_3 s19) cw_X11_204 rfl rfl dX11_told_79 kc_30 ci_6 ⟨Nat.le_of_ble_eq_true rfl, Nat.le_of_ble_eq_true rfl⟩ rfl rfl (Nat.le_of_ble_eq_true rfl) (Nat.le_of_ble_eq_true rfl) (Nat.le_of_ble_eq_true rfl) rfl (fun q79 => ?_)
    exact VX_ireti (pc := 82) dX11_told_82 rfl (hk := fun h => h)
  refine V_ite (c := p5 = (1 : Int32)) (fun hx => ?_) (fun hx1 => ?_)
  · refine V_tabIn (pc := 38) (x := p5) (tgt := 83) dX11_told_38 (by rw [hx]; decide) (by rw [hx]; decide) (by rw [hx]; rfl) (by decide) ?_
    refine V_aload_n (pc := 83) dX11_told_83 rfl rfl ?_
    refine V_getr (pc := 84) (t := 30) fk_X11_32 rfl dX11_told_84 kc_0 rf_11_4_0 ?_
    refine V_aload_n (pc := 87) dX11_told_87 rfl rfl ?_
    refine V_getr (pc := 88) (t := 3) fk_X11_19 rfl dX11_told_88 kc_0 rf_11_1_0 ?_
    refine V_iload (pc := 91) dX11_told_91 rfl ?_
    refine V_iload (pc := 93) dX11_told_93 rfl ?_
    refine V_iload_n (pc := 95) dX11_told_95 rfl rfl ?_
    refine V_iload (pc := 96) dX11_told_96 rfl ?_
    refine V_callVi (pc := 98) (As := [.ref (wB w + 3), .int (mnI p1 p2), .int (mxI p1 p2), .int p3, .int p4]) (rest := []) (c_X6_lastsFor w n 30 3 (mnI p1 p2) (mxI p1 p2) p3 p4 kc_30 kc_3 s19) cw_X11_208 rfl rfl dX11_told_98 kc_30 ci_6 ⟨Nat.le_of_ble_eq_true rfl, Nat.le_of_ble_eq_true rfl⟩ rfl rfl (Nat.le_of_ble_eq_true rfl) (Nat.le_of_ble_eq_true rfl) (Nat.le_of_ble_eq_true rfl) rfl (fun q98 => ?_)
    exact VX_ireti (pc := 101) dX11_told_101 rfl (hk := fun h => h)
  refine V_ite (c := p5 = (2 : Int32)) (fun hx => ?_) (fun hx2 => ?_)
  · refine V_tabIn (pc := 38) (x := p5) (tgt := 102) dX11_told_38 (by rw [hx]; decide) (by rw [hx]; decide) (by rw [hx]; rfl) (by decide) ?_
    refine V_aload_n (pc := 102) dX11_told_102 rfl rfl ?_
    refine V_getr (pc := 103) (t := 30) fk_X11_32 rfl dX11_told_103 kc_0 rf_11_4_0 ?_
    refine V_aload_n (pc := 106) dX11_told_106 rfl rfl ?_
    refine V_getr (pc := 107) (t := 3) fk_X11_19 rfl dX11_told_107 kc_0 rf_11_1_0 ?_
    refine V_iload (pc := 110) dX11_told_110 rfl ?_
    refine V_iload (pc := 112) dX11_told_112 rfl ?_
    refine V_callVi (pc := 114) (As := [.ref (wB w + 3), .int (mnI p1 p2), .int (mxI p1 p2)]) (rest := []) (c_X6_suspectsBy w n 30 3 (mnI p1 p2) (mxI p1 p2) kc_30 kc_3 s19) cw_X11_211 rfl rfl dX11_told_114 kc_30 ci_6 ⟨Nat.le_of_ble_eq_true rfl, Nat.le_of_ble_eq_true rfl⟩ rfl rfl (Nat.le_of_ble_eq_true rfl) (Nat.le_of_ble_eq_true rfl) (Nat.le_of_ble_eq_true rfl) rfl (fun q114 => ?_)
    exact VX_ireti (pc := 117) dX11_told_117 rfl (hk := fun h => h)
  refine V_tabOut (pc := 38) (tgt := 118) dX11_told_38 (tabout p5 0 2 (by decide) (by decide) (fun k h1 h2 => ?_)) (by decide) ?_
  · rcases (show k = 0 ∨ k = 1 ∨ k = 2 by omega) with rfl | rfl | rfl
    · exact hx0
    · exact hx1
    · exact hx2
  · exact VX_throw (pc := 118) (e := 2) (names := ["java/lang/RuntimeException", "java/lang/Exception"]) hno rfl (by decide +kernel) (by decide +kernel) (by decide) tw_X11_175_177.1 tw_X11_175_177.2 dX11_told_118 dX11_told_121 dX11_told_122 dX11_told_125 (Nat.le_of_ble_eq_true rfl) (Nat.le_of_ble_eq_true rfl) (Nat.le_of_ble_eq_true rfl) (Nat.le_of_ble_eq_true rfl) (fun h => h)
def f_X11_needCup (p1 : Int32) (p2 : Int32) (σ : MS) : Option (XRes) := ((f_X4_everybody 3 σ).bind (fun q6 => ((f_J6_bitCount_0f7a4 (p1 &&& q6) σ).bind (fun q10 => (thn (f_X11_needNumber q10 (2 : Int32) (8 : Int32) σ) (fun v16 s16 => (thn (f_X11_needNumber p2 (0 : Int32) (3 : Int32) s16) (fun v23 s23 => some (.inl 0, s23)) (fun e s => some (.inr e, s)))) (fun e s => some (.inr e, s)))))))
set_option maxRecDepth 20000 in
set_option maxHeartbeats 2000000 in
theorem c_X11_needCup (w : TG) (p1 : Int32) (p2 : Int32) (σ : MS) : MX m_X11_needCup w [.ref (wB w + 0), .int p1, .int p2] σ (f_X11_needCup p1 p2 σ) := by
  refine VX_meth (by decide +kernel) (Nat.le_of_ble_eq_true rfl) (by intro v hv; simp only [List.mem_cons, List.not_mem_nil, or_false] at hv; rcases hv with rfl | rfl | rfl <;> rfl) (fun g x hno => ?_)
  show VV m_X11_needCup w g 0 0 (QX m_X11_needCup w g x) (fun b : XRes => b = x) 0 [some (.ref (wB w + 0)), some (.int p1), some (.int p2)] [] σ (f_X11_needCup p1 p2 σ)
  refine V_aload_n (pc := 0) dX11_needCup_0 rfl rfl ?_
  refine V_iload_n (pc := 1) dX11_needCup_1 rfl rfl ?_
  refine V_aload_n (pc := 2) dX11_needCup_2 rfl rfl ?_
  refine V_getr (pc := 3) (t := 3) fk_X11_19 rfl dX11_needCup_3 kc_0 rf_11_1_0 ?_
  refine V_callVpi (pc := 6) (As := []) (rest := [.int p1, .ref (wB w + 0)]) (c_X4_everybody w 3 kc_3 σ) cw_X11_221 rfl rfl dX11_needCup_6 kc_3 ci_4 ⟨Nat.le_of_ble_eq_true rfl, Nat.le_of_ble_eq_true rfl⟩ rfl rfl (Nat.le_of_ble_eq_true rfl) (Nat.le_of_ble_eq_true rfl) (Nat.le_of_ble_eq_true rfl) rfl (fun q6 => ?_)
  refine V_iand (pc := 9) dX11_needCup_9 ?_
  refine V_callSpi (pc := 10) (As := [.int (p1 &&& q6)]) (rest := [.ref (wB w + 0)]) (c_J6_bitCount_0f7a4 w (p1 &&& q6) σ) cs_X11_321 rfl rfl dX11_needCup_10 ⟨Nat.le_of_ble_eq_true rfl, Nat.le_of_ble_eq_true rfl⟩ rfl rfl (Nat.le_of_ble_eq_true rfl) (Nat.le_of_ble_eq_true rfl) (Nat.le_of_ble_eq_true rfl) rfl (fun q10 => ?_)
  refine V_iconst (pc := 13) dX11_needCup_13 ic_2 ?_
  refine V_bipush (pc := 14) dX11_needCup_14 bp_8 ?_
  refine VX_call (pc := 16) (As := [.int q10, .int (2 : Int32), .int (8 : Int32)]) (rest := []) hno (c_X11_needNumber w q10 (2 : Int32) (8 : Int32) σ) cw_X11_192 rfl dX11_needCup_16 kc_0 ci_11 ⟨Nat.le_of_ble_eq_true rfl, Nat.le_of_ble_eq_true rfl⟩ rfl rfl (Nat.le_of_ble_eq_true rfl) (Nat.le_of_ble_eq_true rfl) (Nat.le_of_ble_eq_true rfl) (fun e s b h k => by cases h; exact k) (fun v16 s16 => ?_)
  show VV m_X11_needCup w g 1 6 (QX m_X11_needCup w g x) (fun b : XRes => b = x) 19 [some (.ref (wB w + 0)), some (.int p1), some (.int p2)] [] s16 _
  refine V_aload_n (pc := 19) dX11_needCup_19 rfl rfl ?_
  refine V_iload_n (pc := 20) dX11_needCup_20 rfl rfl ?_
  refine V_iconst (pc := 21) dX11_needCup_21 ic_0 ?_
  refine V_iconst (pc := 22) dX11_needCup_22 ic_3 ?_
  refine VX_call (pc := 23) (As := [.int p2, .int (0 : Int32), .int (3 : Int32)]) (rest := []) hno (c_X11_needNumber w p2 (0 : Int32) (3 : Int32) s16) cw_X11_192 rfl dX11_needCup_23 kc_0 ci_11 ⟨Nat.le_of_ble_eq_true rfl, Nat.le_of_ble_eq_true rfl⟩ rfl rfl (Nat.le_of_ble_eq_true rfl) (Nat.le_of_ble_eq_true rfl) (Nat.le_of_ble_eq_true rfl) (fun e s b h k => by cases h; exact k) (fun v23 s23 => ?_)
  show VV m_X11_needCup w g 2 12 (QX m_X11_needCup w g x) (fun b : XRes => b = x) 26 [some (.ref (wB w + 0)), some (.int p1), some (.int p2)] [] s23 _
  exact VX_ret (pc := 26) dX11_needCup_26 rfl (hk := fun h => h)
def J_X11_remember_35  (σ : MS) : Option (Int32 × MS) := (if inb (remI (((σ 0 15) + (σ 0 16)) - (1 : Int32)) (12 : Int32)) 12 then ((f_X4_become (63 + 9 * ix (remI (((σ 0 15) + (σ 0 16)) - (1 : Int32)) (12 : Int32))) 3 σ).bind (fun q58 => some (0, q58.2))) else none)
def f_X11_remember  (σ : MS) : Option (Int32 × MS) := (if (12 : Int32) ≤ (σ 0 16) then (ltM (mu σ 0 15 (remI ((σ 0 15) + (1 : Int32)) (12 : Int32))) (fun s32 => J_X11_remember_35  s32)) else (ltM (mu σ 0 16 ((σ 0 16) + (1 : Int32))) (fun s16 => J_X11_remember_35  s16)))
set_option maxRecDepth 20000 in
set_option maxHeartbeats 2000000 in
theorem c_X11_remember (w : TG)  (σ : MS) : MC m_X11_remember w [.ref (wB w + 0)] σ (f_X11_remember  σ) := by
  refine V_meth (by decide +kernel) (Nat.le_of_ble_eq_true rfl) (by intro v hv; simp only [List.mem_cons, List.not_mem_nil, or_false] at hv; subst hv; rfl) (fun g x => ?_)
  show VV m_X11_remember w g 0 0 (QM m_X11_remember w g x) (fun b : Int32 × MS => b = x) 0 [some (.ref (wB w + 0))] [] σ (f_X11_remember  σ)
  have hJ35 : ∀ (σ : MS), VV m_X11_remember w g 0 0 (QM m_X11_remember w g x) (fun b : Int32 × MS => b = x) 35 [some (.ref (wB w + 0))] [] σ (J_X11_remember_35  σ) := by
    intro σ
    refine V_aload_n (pc := 35) dX11_remember_35 rfl rfl ?_
    refine V_getr (pc := 36) (t := 62) fk_X11_99 rfl dX11_remember_36 kc_0 rf_11_14_0 ?_
    refine V_aload_n (pc := 39) dX11_remember_39 rfl rfl ?_
    refine V_geti (pc := 40) fk_X11_354 rfl dX11_remember_40 kc_0 rf_11_15_0 ?_
    refine V_aload_n (pc := 43) dX11_remember_43 rfl rfl ?_
    refine V_geti (pc := 44) fk_X11_134 rfl dX11_remember_44 kc_0 rf_11_16_0 ?_
    refine V_iadd (pc := 47) dX11_remember_47 ?_
    refine V_iconst (pc := 48) dX11_remember_48 ic_1 ?_
    refine V_isub (pc := 49) dX11_remember_49 ?_
    refine V_bipush (pc := 50) dX11_remember_50 bp_12 ?_
    refine V_irem (pc := 52) dX11_remember_52 (by decide +kernel) ?_
    refine V_aaldH (pc := 53) dX11_remember_53 (fun hin => ?_)
    refine V_aload_n (pc := 54) dX11_remember_54 rfl rfl ?_
    refine V_getr (pc := 55) (t := 3) fk_X11_19 rfl dX11_remember_55 kc_0 rf_11_1_0 ?_
    refine V_callVv (pc := 58) (As := [.ref (wB w + 3)]) (rest := []) (c_X4_become w (63 + 9 * ix (remI (((σ 0 15) + (σ 0 16)) - (1 : Int32)) (12 : Int32))) 3 (kpast hin) kc_3 σ) cw_X11_114 rfl rfl dX11_remember_58 (kpast hin) ci_4 ⟨Nat.le_of_ble_eq_true rfl, Nat.le_of_ble_eq_true rfl⟩ rfl rfl (Nat.le_of_ble_eq_true rfl) (Nat.le_of_ble_eq_true rfl) (Nat.le_of_ble_eq_true rfl) rfl (fun q58 => ?_)
    exact V_ret (pc := 61) dX11_remember_61 rfl (hk := fun h => h)
  refine V_aload_n (pc := 0) dX11_remember_0 rfl rfl ?_
  refine V_geti (pc := 1) fk_X11_134 rfl dX11_remember_1 kc_0 rf_11_16_0 ?_
  refine V_bipush (pc := 4) dX11_remember_4 bp_12 ?_
  refine V_icmp_ge (pc := 6) (tgt := 22) dX11_remember_6 (by decide +kernel) ?_ ?_
  · refine V_aload_n (pc := 22) dX11_remember_22 rfl rfl ?_
    refine V_aload_n (pc := 23) dX11_remember_23 rfl rfl ?_
    refine V_geti (pc := 24) fk_X11_354 rfl dX11_remember_24 kc_0 rf_11_15_0 ?_
    refine V_iconst (pc := 27) dX11_remember_27 ic_1 ?_
    refine V_iadd (pc := 28) dX11_remember_28 ?_
    refine V_bipush (pc := 29) dX11_remember_29 bp_12 ?_
    refine V_irem (pc := 31) dX11_remember_31 (by decide +kernel) ?_
    refine V_puti (pc := 32) fp_X11_354 rfl dX11_remember_32 kc_0 rf_11_15_0 (fun s32 => ?_)
    exact hJ35 s32
  · refine V_aload_n (pc := 9) dX11_remember_9 rfl rfl ?_
    refine V_dup (pc := 10) dX11_remember_10 rfl ?_
    refine V_geti (pc := 11) fk_X11_134 rfl dX11_remember_11 kc_0 rf_11_16_0 ?_
    refine V_iconst (pc := 14) dX11_remember_14 ic_1 ?_
    refine V_iadd (pc := 15) dX11_remember_15 ?_
    refine V_puti (pc := 16) fp_X11_134 rfl dX11_remember_16 kc_0 rf_11_16_0 (fun s16 => ?_)
    refine V_goto (pc := 19) (tgt := 35) dX11_remember_19 (by decide +kernel) ?_
    exact hJ35 s16
def f_X11_share (n : Nat) (p1 : Int32) (p2 : Int32) (σ : MS) : Option (XRes) := (thn (f_X11_needCup p1 p2 σ) (fun v3 s3 => ((f_X11_remember  s3).bind (fun q7 => ((f_X4_everybody 3 q7.2).bind (fun q19 => ((f_X1_pour n (p1 &&& q19) p2 (1 : Int32) q7.2).bind (fun q25 => some (.inl q25.1, q25.2)))))))) (fun e s => some (.inr e, s)))
set_option maxRecDepth 20000 in
set_option maxHeartbeats 2000000 in
theorem c_X11_share (w : TG) (n : Nat) (p1 : Int32) (p2 : Int32) (σ : MS) : MX m_X11_share w [.ref (wB w + 0), .int p1, .int p2] σ (f_X11_share n p1 p2 σ) := by
  refine VX_meth (by decide +kernel) (Nat.le_of_ble_eq_true rfl) (by intro v hv; simp only [List.mem_cons, List.not_mem_nil, or_false] at hv; rcases hv with rfl | rfl | rfl <;> rfl) (fun g x hno => ?_)
  show VV m_X11_share w g 0 0 (QX m_X11_share w g x) (fun b : XRes => b = x) 0 [some (.ref (wB w + 0)), some (.int p1), some (.int p2)] [] σ (f_X11_share n p1 p2 σ)
  refine V_aload_n (pc := 0) dX11_share_0 rfl rfl ?_
  refine V_iload_n (pc := 1) dX11_share_1 rfl rfl ?_
  refine V_iload_n (pc := 2) dX11_share_2 rfl rfl ?_
  refine VX_call (pc := 3) (As := [.int p1, .int p2]) (rest := []) hno (c_X11_needCup w p1 p2 σ) cw_X11_215 rfl dX11_share_3 kc_0 ci_11 ⟨Nat.le_of_ble_eq_true rfl, Nat.le_of_ble_eq_true rfl⟩ rfl rfl (Nat.le_of_ble_eq_true rfl) (Nat.le_of_ble_eq_true rfl) (Nat.le_of_ble_eq_true rfl) (fun e s b h k => by cases h; exact k) (fun v3 s3 => ?_)
  show VV m_X11_share w g 2 12 (QX m_X11_share w g x) (fun b : XRes => b = x) 6 [some (.ref (wB w + 0)), some (.int p1), some (.int p2)] [] s3 _
  refine V_aload_n (pc := 6) dX11_share_6 rfl rfl ?_
  refine V_callVv (pc := 7) (As := []) (rest := []) (c_X11_remember w  s3) cw_X11_218 rfl rfl dX11_share_7 kc_0 ci_11 ⟨Nat.le_of_ble_eq_true rfl, Nat.le_of_ble_eq_true rfl⟩ rfl rfl (Nat.le_of_ble_eq_true rfl) (Nat.le_of_ble_eq_true rfl) (Nat.le_of_ble_eq_true rfl) rfl (fun q7 => ?_)
  refine V_aload_n (pc := 10) dX11_share_10 rfl rfl ?_
  refine V_getr (pc := 11) (t := 53) fk_X11_63 rfl dX11_share_11 kc_0 rf_11_9_0 ?_
  refine V_iload_n (pc := 14) dX11_share_14 rfl rfl ?_
  refine V_aload_n (pc := 15) dX11_share_15 rfl rfl ?_
  refine V_getr (pc := 16) (t := 3) fk_X11_19 rfl dX11_share_16 kc_0 rf_11_1_0 ?_
  refine V_callVpi (pc := 19) (As := []) (rest := [.int p1, .ref (wB w + 53)]) (c_X4_everybody w 3 kc_3 q7.2) cw_X11_221 rfl rfl dX11_share_19 kc_3 ci_4 ⟨Nat.le_of_ble_eq_true rfl, Nat.le_of_ble_eq_true rfl⟩ rfl rfl (Nat.le_of_ble_eq_true rfl) (Nat.le_of_ble_eq_true rfl) (Nat.le_of_ble_eq_true rfl) rfl (fun q19 => ?_)
  refine V_iand (pc := 22) dX11_share_22 ?_
  refine V_iload_n (pc := 23) dX11_share_23 rfl rfl ?_
  refine V_iconst (pc := 24) dX11_share_24 ic_1 ?_
  refine V_callVi (pc := 25) (As := [.int (p1 &&& q19), .int p2, .int (1 : Int32)]) (rest := []) (c_X1_pour w n (p1 &&& q19) p2 (1 : Int32) q7.2) cw_X11_225 rfl rfl dX11_share_25 kc_53 ci_1 ⟨Nat.le_of_ble_eq_true rfl, Nat.le_of_ble_eq_true rfl⟩ rfl rfl (Nat.le_of_ble_eq_true rfl) (Nat.le_of_ble_eq_true rfl) (Nat.le_of_ble_eq_true rfl) rfl (fun q25 => ?_)
  exact VX_ireti (pc := 28) dX11_share_28 rfl (hk := fun h => h)
def f_X11_wash (p1 : Int32) (p2 : Int32) (σ : MS) : Option (XRes) := (thn (f_X11_needTwo p1 p2 σ) (fun v3 s3 => ((f_X11_remember  s3).bind (fun q7 => ((f_X4_held 3 p1 p2 q7.2).bind (fun q16 => ((f_X4_tie 3 p1 p2 (0 : Int32) (0 : Int32) q7.2).bind (fun q28 => some (.inl q16, q28.2)))))))) (fun e s => some (.inr e, s)))
set_option maxRecDepth 20000 in
set_option maxHeartbeats 2000000 in
theorem c_X11_wash (w : TG) (p1 : Int32) (p2 : Int32) (σ : MS) : MX m_X11_wash w [.ref (wB w + 0), .int p1, .int p2] σ (f_X11_wash p1 p2 σ) := by
  refine VX_meth (by decide +kernel) (Nat.le_of_ble_eq_true rfl) (by intro v hv; simp only [List.mem_cons, List.not_mem_nil, or_false] at hv; rcases hv with rfl | rfl | rfl <;> rfl) (fun g x hno => ?_)
  show VV m_X11_wash w g 0 0 (QX m_X11_wash w g x) (fun b : XRes => b = x) 0 [some (.ref (wB w + 0)), some (.int p1), some (.int p2), none] [] σ (f_X11_wash p1 p2 σ)
  refine V_aload_n (pc := 0) dX11_wash_0 rfl rfl ?_
  refine V_iload_n (pc := 1) dX11_wash_1 rfl rfl ?_
  refine V_iload_n (pc := 2) dX11_wash_2 rfl rfl ?_
  refine VX_call (pc := 3) (As := [.int p1, .int p2]) (rest := []) hno (c_X11_needTwo w p1 p2 σ) cw_X11_178 rfl dX11_wash_3 kc_0 ci_11 ⟨Nat.le_of_ble_eq_true rfl, Nat.le_of_ble_eq_true rfl⟩ rfl rfl (Nat.le_of_ble_eq_true rfl) (Nat.le_of_ble_eq_true rfl) (Nat.le_of_ble_eq_true rfl) (fun e s b h k => by cases h; exact k) (fun v3 s3 => ?_)
  show VV m_X11_wash w g 3 18 (QX m_X11_wash w g x) (fun b : XRes => b = x) 6 [some (.ref (wB w + 0)), some (.int p1), some (.int p2), none] [] s3 _
  refine V_aload_n (pc := 6) dX11_wash_6 rfl rfl ?_
  refine V_callVv (pc := 7) (As := []) (rest := []) (c_X11_remember w  s3) cw_X11_218 rfl rfl dX11_wash_7 kc_0 ci_11 ⟨Nat.le_of_ble_eq_true rfl, Nat.le_of_ble_eq_true rfl⟩ rfl rfl (Nat.le_of_ble_eq_true rfl) (Nat.le_of_ble_eq_true rfl) (Nat.le_of_ble_eq_true rfl) rfl (fun q7 => ?_)
  refine V_aload_n (pc := 10) dX11_wash_10 rfl rfl ?_
  refine V_getr (pc := 11) (t := 3) fk_X11_19 rfl dX11_wash_11 kc_0 rf_11_1_0 ?_
  refine V_iload_n (pc := 14) dX11_wash_14 rfl rfl ?_
  refine V_iload_n (pc := 15) dX11_wash_15 rfl rfl ?_
  refine V_callVpi (pc := 16) (As := [.int p1, .int p2]) (rest := []) (c_X4_held w 3 p1 p2 kc_3 q7.2) cw_X11_189 rfl rfl dX11_wash_16 kc_3 ci_4 ⟨Nat.le_of_ble_eq_true rfl, Nat.le_of_ble_eq_true rfl⟩ rfl rfl (Nat.le_of_ble_eq_true rfl) (Nat.le_of_ble_eq_true rfl) (Nat.le_of_ble_eq_true rfl) rfl (fun q16 => ?_)
  refine V_istore_n (pc := 19) (vs' := [some (.ref (wB w + 0)), some (.int p1), some (.int p2), some (.int q16)]) dX11_wash_19 rfl (Nat.le_of_ble_eq_true rfl) (Nat.le_of_ble_eq_true rfl) rfl ?_
  refine V_aload_n (pc := 20) dX11_wash_20 rfl rfl ?_
  refine V_getr (pc := 21) (t := 3) fk_X11_19 rfl dX11_wash_21 kc_0 rf_11_1_0 ?_
  refine V_iload_n (pc := 24) dX11_wash_24 rfl rfl ?_
  refine V_iload_n (pc := 25) dX11_wash_25 rfl rfl ?_
  refine V_iconst (pc := 26) dX11_wash_26 ic_0 ?_
  refine V_iconst (pc := 27) dX11_wash_27 ic_0 ?_
  refine V_callVv (pc := 28) (As := [.int p1, .int p2, .int (0 : Int32), .int (0 : Int32)]) (rest := []) (c_X4_tie w 3 p1 p2 (0 : Int32) (0 : Int32) kc_3 q7.2) cw_X11_229 rfl rfl dX11_wash_28 kc_3 ci_4 ⟨Nat.le_of_ble_eq_true rfl, Nat.le_of_ble_eq_true rfl⟩ rfl rfl (Nat.le_of_ble_eq_true rfl) (Nat.le_of_ble_eq_true rfl) (Nat.le_of_ble_eq_true rfl) rfl (fun q28 => ?_)
  refine V_iload_n (pc := 31) dX11_wash_31 rfl rfl ?_
  exact VX_ireti (pc := 32) dX11_wash_32 rfl (hk := fun h => h)
def J_X11_needRoom_10  (σ : MS) : Option (XRes) := some (.inr 0, σ)
def f_X11_needRoom (p1 : Int32) (σ : MS) : Option (XRes) := (if p1 < 0 then J_X11_needRoom_10  σ else (if p1 < (6 : Int32) then some (.inl 0, σ) else J_X11_needRoom_10  σ))
set_option maxRecDepth 20000 in
set_option maxHeartbeats 2000000 in
theorem c_X11_needRoom (w : TG) (p1 : Int32) (σ : MS) : MX m_X11_needRoom w [.ref (wB w + 0), .int p1] σ (f_X11_needRoom p1 σ) := by
  refine VX_meth (by decide +kernel) (Nat.le_of_ble_eq_true rfl) (by intro v hv; simp only [List.mem_cons, List.not_mem_nil, or_false] at hv; rcases hv with rfl | rfl <;> rfl) (fun g x hno => ?_)
  show VV m_X11_needRoom w g 0 0 (QX m_X11_needRoom w g x) (fun b : XRes => b = x) 0 [some (.ref (wB w + 0)), some (.int p1)] [] σ (f_X11_needRoom p1 σ)
  have hJ10 : ∀ (σ : MS), VV m_X11_needRoom w g 0 0 (QX m_X11_needRoom w g x) (fun b : XRes => b = x) 10 [none, none] [] σ (J_X11_needRoom_10  σ) := by
    intro σ
    exact VX_throw (pc := 10) (e := 0) (names := ["java/lang/RuntimeException", "java/lang/Exception"]) hno rfl (by decide +kernel) (by decide +kernel) (by decide) tw_X11_380_382.1 tw_X11_380_382.2 dX11_needRoom_10 dX11_needRoom_13 dX11_needRoom_14 dX11_needRoom_17 (Nat.le_of_ble_eq_true rfl) (Nat.le_of_ble_eq_true rfl) (Nat.le_of_ble_eq_true rfl) (Nat.le_of_ble_eq_true rfl) (fun h => h)
  refine V_iload_n (pc := 0) dX11_needRoom_0 rfl rfl ?_
  refine V_if_lt (pc := 1) (tgt := 10) dX11_needRoom_1 (by decide +kernel) ?_ ?_
  · refine V_widen (kc' := 0) (ks' := 0) (Nat.le_of_ble_eq_true rfl) (Nat.le_of_ble_eq_true rfl) ?_
    refine V_sub (vs' := [none, none]) (show vless _ _ from trivial) rfl ?_
    exact hJ10 σ
  · refine V_iload_n (pc := 4) dX11_needRoom_4 rfl rfl ?_
    refine V_bipush (pc := 5) dX11_needRoom_5 bp_6 ?_
    refine V_icmp_lt (pc := 7) (tgt := 18) dX11_needRoom_7 (by decide +kernel) ?_ ?_
    · exact VX_ret (pc := 18) dX11_needRoom_18 rfl (hk := fun h => h)
    · refine V_widen (kc' := 0) (ks' := 0) (Nat.le_of_ble_eq_true rfl) (Nat.le_of_ble_eq_true rfl) ?_
      refine V_sub (vs' := [none, none]) (show vless _ _ from trivial) rfl ?_
      exact hJ10 σ
def f_X11_go (p1 : Int32) (p2 : Int32) (σ : MS) : Option (XRes) := (thn (f_X11_needPerson p1 σ) (fun v2 s2 => (thn (f_X11_needRoom p2 s2) (fun v7 s7 => ((f_X11_remember  s7).bind (fun q11 => (if inb p1 8 then (if inb p1 8 then ltM (mu q11.2 4 (ix p1) p2) (fun s33 => some (.inl (q11.2 4 (ix p1)), s33)) else none) else none)))) (fun e s => some (.inr e, s)))) (fun e s => some (.inr e, s)))
set_option maxRecDepth 20000 in
set_option maxHeartbeats 2000000 in
theorem c_X11_go (w : TG) (p1 : Int32) (p2 : Int32) (σ : MS) : MX m_X11_go w [.ref (wB w + 0), .int p1, .int p2] σ (f_X11_go p1 p2 σ) := by
  refine VX_meth (by decide +kernel) (Nat.le_of_ble_eq_true rfl) (by intro v hv; simp only [List.mem_cons, List.not_mem_nil, or_false] at hv; rcases hv with rfl | rfl | rfl <;> rfl) (fun g x hno => ?_)
  show VV m_X11_go w g 0 0 (QX m_X11_go w g x) (fun b : XRes => b = x) 0 [some (.ref (wB w + 0)), some (.int p1), some (.int p2), none] [] σ (f_X11_go p1 p2 σ)
  refine V_aload_n (pc := 0) dX11_go_0 rfl rfl ?_
  refine V_iload_n (pc := 1) dX11_go_1 rfl rfl ?_
  refine VX_call (pc := 2) (As := [.int p1]) (rest := []) hno (c_X11_needPerson w p1 σ) cw_X11_146 rfl dX11_go_2 kc_0 ci_11 ⟨Nat.le_of_ble_eq_true rfl, Nat.le_of_ble_eq_true rfl⟩ rfl rfl (Nat.le_of_ble_eq_true rfl) (Nat.le_of_ble_eq_true rfl) (Nat.le_of_ble_eq_true rfl) (fun e s b h k => by cases h; exact k) (fun v2 s2 => ?_)
  show VV m_X11_go w g 1 6 (QX m_X11_go w g x) (fun b : XRes => b = x) 5 [some (.ref (wB w + 0)), some (.int p1), some (.int p2), none] [] s2 _
  refine V_aload_n (pc := 5) dX11_go_5 rfl rfl ?_
  refine V_iload_n (pc := 6) dX11_go_6 rfl rfl ?_
  refine VX_call (pc := 7) (As := [.int p2]) (rest := []) hno (c_X11_needRoom w p2 s2) cw_X11_233 rfl dX11_go_7 kc_0 ci_11 ⟨Nat.le_of_ble_eq_true rfl, Nat.le_of_ble_eq_true rfl⟩ rfl rfl (Nat.le_of_ble_eq_true rfl) (Nat.le_of_ble_eq_true rfl) (Nat.le_of_ble_eq_true rfl) (fun e s b h k => by cases h; exact k) (fun v7 s7 => ?_)
  show VV m_X11_go w g 2 12 (QX m_X11_go w g x) (fun b : XRes => b = x) 10 [some (.ref (wB w + 0)), some (.int p1), some (.int p2), none] [] s7 _
  refine V_aload_n (pc := 10) dX11_go_10 rfl rfl ?_
  refine V_callVv (pc := 11) (As := []) (rest := []) (c_X11_remember w  s7) cw_X11_218 rfl rfl dX11_go_11 kc_0 ci_11 ⟨Nat.le_of_ble_eq_true rfl, Nat.le_of_ble_eq_true rfl⟩ rfl rfl (Nat.le_of_ble_eq_true rfl) (Nat.le_of_ble_eq_true rfl) (Nat.le_of_ble_eq_true rfl) rfl (fun q11 => ?_)
  refine V_aload_n (pc := 14) dX11_go_14 rfl rfl ?_
  refine V_getr (pc := 15) (t := 3) fk_X11_19 rfl dX11_go_15 kc_0 rf_11_1_0 ?_
  refine V_getr (pc := 18) (t := 4) fk_X11_149 rfl dX11_go_18 kc_3 rf_4_8_3 ?_
  refine V_iload_n (pc := 21) dX11_go_21 rfl rfl ?_
  refine V_iald (pc := 22) (n := 8) dX11_go_22 kc_4 lc_4 ?_
  refine V_istore_n (pc := 23) (vs' := [some (.ref (wB w + 0)), some (.int p1), some (.int p2), some (.int (q11.2 4 (ix p1)))]) dX11_go_23 rfl (Nat.le_of_ble_eq_true rfl) (Nat.le_of_ble_eq_true rfl) rfl ?_
  refine V_aload_n (pc := 24) dX11_go_24 rfl rfl ?_
  refine V_getr (pc := 25) (t := 3) fk_X11_19 rfl dX11_go_25 kc_0 rf_11_1_0 ?_
  refine V_getr (pc := 28) (t := 4) fk_X11_149 rfl dX11_go_28 kc_3 rf_4_8_3 ?_
  refine V_iload_n (pc := 31) dX11_go_31 rfl rfl ?_
  refine V_iload_n (pc := 32) dX11_go_32 rfl rfl ?_
  refine V_iast (pc := 33) (n := 8) dX11_go_33 kc_4 lc_4 (fun s33 => ?_)
  refine V_iload_n (pc := 34) dX11_go_34 rfl rfl ?_
  exact VX_ireti (pc := 35) dX11_go_35 rfl (hk := fun h => h)
def J_X11_strew_59 (t0 : Int32) (σ : MS) : Option (XRes) := (if t0 = 0 ∨ t0 = 1 then some (.inl t0, σ) else none)
def J_X11_strew_40 (v3 : Int32) (t0 : Int32) (σ : MS) : Option (XRes) := (ltM (mu σ 3 2 t0) (fun s40 => (if (s40 3 2) = v3 then J_X11_strew_59 (0 : Int32) s40 else J_X11_strew_59 (1 : Int32) s40)))
def f_X11_strew (p1 : Int32) (p2 : Int32) (σ : MS) : Option (XRes) := (thn (f_X11_needRoom p1 σ) (fun v2 s2 => ((f_X11_remember  s2).bind (fun q6 => (if p2 = 0 then J_X11_strew_40 (q6.2 3 2) ((q6.2 3 2) &&& ((shlI (1 : Int32) p1) ^^^ (-1 : Int32))) q6.2 else J_X11_strew_40 (q6.2 3 2) ((q6.2 3 2) ||| (shlI (1 : Int32) p1)) q6.2)))) (fun e s => some (.inr e, s)))
set_option maxRecDepth 20000 in
set_option maxHeartbeats 2000000 in
theorem c_X11_strew (w : TG) (p1 : Int32) (p2 : Int32) (σ : MS) : MX m_X11_strew w [.ref (wB w + 0), .int p1, .int p2] σ (f_X11_strew p1 p2 σ) := by
  refine VX_meth (by decide +kernel) (Nat.le_of_ble_eq_true rfl) (by intro v hv; simp only [List.mem_cons, List.not_mem_nil, or_false] at hv; rcases hv with rfl | rfl | rfl <;> rfl) (fun g x hno => ?_)
  show VV m_X11_strew w g 0 0 (QX m_X11_strew w g x) (fun b : XRes => b = x) 0 [some (.ref (wB w + 0)), some (.int p1), some (.int p2), none] [] σ (f_X11_strew p1 p2 σ)
  have hJ59 : ∀ (t0 : Int32) (σ : MS), VV m_X11_strew w g 1 6 (QX m_X11_strew w g x) (fun b : XRes => b = x) 59 [none, none, none, none] [.int t0] σ (J_X11_strew_59 t0 σ) := by
    intro t0 σ
    exact VX_iretZ (pc := 59) dX11_strew_59 rfl (hk := fun h => h)
  have hJ40 : ∀ (v3 : Int32) (t0 : Int32) (σ : MS), VV m_X11_strew w g 1 6 (QX m_X11_strew w g x) (fun b : XRes => b = x) 40 [some (.ref (wB w + 0)), none, none, some (.int v3)] [.int t0, .ref (wB w + 3)] σ (J_X11_strew_40 v3 t0 σ) := by
    intro v3 t0 σ
    refine V_puti (pc := 40) fp_X11_236 rfl dX11_strew_40 kc_3 rf_4_2_3 (fun s40 => ?_)
    refine V_aload_n (pc := 43) dX11_strew_43 rfl rfl ?_
    refine V_getr (pc := 44) (t := 3) fk_X11_19 rfl dX11_strew_44 kc_0 rf_11_1_0 ?_
    refine V_geti (pc := 47) fk_X11_236 rfl dX11_strew_47 kc_3 rf_4_2_3 ?_
    refine V_iload_n (pc := 50) dX11_strew_50 rfl rfl ?_
    refine V_icmp_eq (pc := 51) (tgt := 58) dX11_strew_51 (by decide +kernel) ?_ ?_
    · refine V_iconst (pc := 58) dX11_strew_58 ic_0 ?_
      refine V_widen (kc' := 1) (ks' := 6) (Nat.le_of_ble_eq_true rfl) (Nat.le_of_ble_eq_true rfl) ?_
      refine V_sub (vs' := [none, none, none, none]) (show vless _ _ from trivial) rfl ?_
      exact hJ59 (0 : Int32) s40
    · refine V_iconst (pc := 54) dX11_strew_54 ic_1 ?_
      refine V_goto (pc := 55) (tgt := 59) dX11_strew_55 (by decide +kernel) ?_
      refine V_widen (kc' := 1) (ks' := 6) (Nat.le_of_ble_eq_true rfl) (Nat.le_of_ble_eq_true rfl) ?_
      refine V_sub (vs' := [none, none, none, none]) (show vless _ _ from trivial) rfl ?_
      exact hJ59 (1 : Int32) s40
  refine V_aload_n (pc := 0) dX11_strew_0 rfl rfl ?_
  refine V_iload_n (pc := 1) dX11_strew_1 rfl rfl ?_
  refine VX_call (pc := 2) (As := [.int p1]) (rest := []) hno (c_X11_needRoom w p1 σ) cw_X11_233 rfl dX11_strew_2 kc_0 ci_11 ⟨Nat.le_of_ble_eq_true rfl, Nat.le_of_ble_eq_true rfl⟩ rfl rfl (Nat.le_of_ble_eq_true rfl) (Nat.le_of_ble_eq_true rfl) (Nat.le_of_ble_eq_true rfl) (fun e s b h k => by cases h; exact k) (fun v2 s2 => ?_)
  show VV m_X11_strew w g 1 6 (QX m_X11_strew w g x) (fun b : XRes => b = x) 5 [some (.ref (wB w + 0)), some (.int p1), some (.int p2), none] [] s2 _
  refine V_aload_n (pc := 5) dX11_strew_5 rfl rfl ?_
  refine V_callVv (pc := 6) (As := []) (rest := []) (c_X11_remember w  s2) cw_X11_218 rfl rfl dX11_strew_6 kc_0 ci_11 ⟨Nat.le_of_ble_eq_true rfl, Nat.le_of_ble_eq_true rfl⟩ rfl rfl (Nat.le_of_ble_eq_true rfl) (Nat.le_of_ble_eq_true rfl) (Nat.le_of_ble_eq_true rfl) rfl (fun q6 => ?_)
  refine V_aload_n (pc := 9) dX11_strew_9 rfl rfl ?_
  refine V_getr (pc := 10) (t := 3) fk_X11_19 rfl dX11_strew_10 kc_0 rf_11_1_0 ?_
  refine V_geti (pc := 13) fk_X11_236 rfl dX11_strew_13 kc_3 rf_4_2_3 ?_
  refine V_istore_n (pc := 16) (vs' := [some (.ref (wB w + 0)), some (.int p1), some (.int p2), some (.int (q6.2 3 2))]) dX11_strew_16 rfl (Nat.le_of_ble_eq_true rfl) (Nat.le_of_ble_eq_true rfl) rfl ?_
  refine V_aload_n (pc := 17) dX11_strew_17 rfl rfl ?_
  refine V_getr (pc := 18) (t := 3) fk_X11_19 rfl dX11_strew_18 kc_0 rf_11_1_0 ?_
  refine V_iload_n (pc := 21) dX11_strew_21 rfl rfl ?_
  refine V_if_eq (pc := 22) (tgt := 33) dX11_strew_22 (by decide +kernel) ?_ ?_
  · refine V_iload_n (pc := 33) dX11_strew_33 rfl rfl ?_
    refine V_iconst (pc := 34) dX11_strew_34 ic_1 ?_
    refine V_iload_n (pc := 35) dX11_strew_35 rfl rfl ?_
    refine V_ishl (pc := 36) dX11_strew_36 ?_
    refine V_iconst (pc := 37) dX11_strew_37 ic_m1 ?_
    refine V_ixor (pc := 38) dX11_strew_38 ?_
    refine V_iand (pc := 39) dX11_strew_39 ?_
    refine V_widen (kc' := 1) (ks' := 6) (Nat.le_of_ble_eq_true rfl) (Nat.le_of_ble_eq_true rfl) ?_
    refine V_sub (vs' := [some (.ref (wB w + 0)), none, none, some (.int (q6.2 3 2))]) (show vless _ _ from ⟨rfl, ⟨rfl, trivial⟩⟩) rfl ?_
    exact hJ40 (q6.2 3 2) ((q6.2 3 2) &&& ((shlI (1 : Int32) p1) ^^^ (-1 : Int32))) q6.2
  · refine V_iload_n (pc := 25) dX11_strew_25 rfl rfl ?_
    refine V_iconst (pc := 26) dX11_strew_26 ic_1 ?_
    refine V_iload_n (pc := 27) dX11_strew_27 rfl rfl ?_
    refine V_ishl (pc := 28) dX11_strew_28 ?_
    refine V_ior (pc := 29) dX11_strew_29 ?_
    refine V_goto (pc := 30) (tgt := 40) dX11_strew_30 (by decide +kernel) ?_
    refine V_widen (kc' := 1) (ks' := 6) (Nat.le_of_ble_eq_true rfl) (Nat.le_of_ble_eq_true rfl) ?_
    refine V_sub (vs' := [some (.ref (wB w + 0)), none, none, some (.int (q6.2 3 2))]) (show vless _ _ from ⟨rfl, ⟨rfl, trivial⟩⟩) rfl ?_
    exact hJ40 (q6.2 3 2) ((q6.2 3 2) ||| (shlI (1 : Int32) p1)) q6.2
def J_X11_wed_32  (σ : MS) : Option (XRes) := some (.inr 3, σ)
def f_X11_wed (p1 : Int32) (p2 : Int32) (σ : MS) : Option (XRes) := (thn (f_X11_needTwo p1 p2 σ) (fun v3 s3 => (if inb p1 8 then (if (s3 5 (ix p1)) = (-1 : Int32) then (if inb p2 8 then (if (s3 5 (ix p2)) = (-1 : Int32) then ((f_X11_remember  s3).bind (fun q41 => ((f_X4_marry 3 p1 p2 q41.2).bind (fun q50 => some (.inl 0, q50.2))))) else J_X11_wed_32  s3) else none) else J_X11_wed_32  s3) else none)) (fun e s => some (.inr e, s)))
set_option maxRecDepth 20000 in
set_option maxHeartbeats 2000000 in
theorem c_X11_wed (w : TG) (p1 : Int32) (p2 : Int32) (σ : MS) : MX m_X11_wed w [.ref (wB w + 0), .int p1, .int p2] σ (f_X11_wed p1 p2 σ) := by
  refine VX_meth (by decide +kernel) (Nat.le_of_ble_eq_true rfl) (by intro v hv; simp only [List.mem_cons, List.not_mem_nil, or_false] at hv; rcases hv with rfl | rfl | rfl <;> rfl) (fun g x hno => ?_)
  show VV m_X11_wed w g 0 0 (QX m_X11_wed w g x) (fun b : XRes => b = x) 0 [some (.ref (wB w + 0)), some (.int p1), some (.int p2)] [] σ (f_X11_wed p1 p2 σ)
  have hJ32 : ∀ (σ : MS), VV m_X11_wed w g 3 18 (QX m_X11_wed w g x) (fun b : XRes => b = x) 32 [none, none, none] [] σ (J_X11_wed_32  σ) := by
    intro σ
    exact VX_throw (pc := 32) (e := 3) (names := ["java/lang/RuntimeException", "java/lang/Exception"]) hno rfl (by decide +kernel) (by decide +kernel) (by decide) tw_X11_239_241.1 tw_X11_239_241.2 dX11_wed_32 dX11_wed_35 dX11_wed_36 dX11_wed_39 (Nat.le_of_ble_eq_true rfl) (Nat.le_of_ble_eq_true rfl) (Nat.le_of_ble_eq_true rfl) (Nat.le_of_ble_eq_true rfl) (fun h => h)
  refine V_aload_n (pc := 0) dX11_wed_0 rfl rfl ?_
  refine V_iload_n (pc := 1) dX11_wed_1 rfl rfl ?_
  refine V_iload_n (pc := 2) dX11_wed_2 rfl rfl ?_
  refine VX_call (pc := 3) (As := [.int p1, .int p2]) (rest := []) hno (c_X11_needTwo w p1 p2 σ) cw_X11_178 rfl dX11_wed_3 kc_0 ci_11 ⟨Nat.le_of_ble_eq_true rfl, Nat.le_of_ble_eq_true rfl⟩ rfl rfl (Nat.le_of_ble_eq_true rfl) (Nat.le_of_ble_eq_true rfl) (Nat.le_of_ble_eq_true rfl) (fun e s b h k => by cases h; exact k) (fun v3 s3 => ?_)
  show VV m_X11_wed w g 3 18 (QX m_X11_wed w g x) (fun b : XRes => b = x) 6 [some (.ref (wB w + 0)), some (.int p1), some (.int p2)] [] s3 _
  refine V_aload_n (pc := 6) dX11_wed_6 rfl rfl ?_
  refine V_getr (pc := 7) (t := 3) fk_X11_19 rfl dX11_wed_7 kc_0 rf_11_1_0 ?_
  refine V_getr (pc := 10) (t := 5) fk_X11_153 rfl dX11_wed_10 kc_3 rf_4_9_3 ?_
  refine V_iload_n (pc := 13) dX11_wed_13 rfl rfl ?_
  refine V_iald (pc := 14) (n := 8) dX11_wed_14 kc_5 lc_5 ?_
  refine V_iconst (pc := 15) dX11_wed_15 ic_m1 ?_
  refine V_icmp_ne (pc := 16) (tgt := 32) dX11_wed_16 (by decide +kernel) ?_ ?_
  · refine V_widen (kc' := 3) (ks' := 18) (Nat.le_of_ble_eq_true rfl) (Nat.le_of_ble_eq_true rfl) ?_
    refine V_sub (vs' := [none, none, none]) (show vless _ _ from trivial) rfl ?_
    exact hJ32 s3
  · refine V_aload_n (pc := 19) dX11_wed_19 rfl rfl ?_
    refine V_getr (pc := 20) (t := 3) fk_X11_19 rfl dX11_wed_20 kc_0 rf_11_1_0 ?_
    refine V_getr (pc := 23) (t := 5) fk_X11_153 rfl dX11_wed_23 kc_3 rf_4_9_3 ?_
    refine V_iload_n (pc := 26) dX11_wed_26 rfl rfl ?_
    refine V_iald (pc := 27) (n := 8) dX11_wed_27 kc_5 lc_5 ?_
    refine V_iconst (pc := 28) dX11_wed_28 ic_m1 ?_
    refine V_icmp_eq (pc := 29) (tgt := 40) dX11_wed_29 (by decide +kernel) ?_ ?_
    · refine V_aload_n (pc := 40) dX11_wed_40 rfl rfl ?_
      refine V_callVv (pc := 41) (As := []) (rest := []) (c_X11_remember w  s3) cw_X11_218 rfl rfl dX11_wed_41 kc_0 ci_11 ⟨Nat.le_of_ble_eq_true rfl, Nat.le_of_ble_eq_true rfl⟩ rfl rfl (Nat.le_of_ble_eq_true rfl) (Nat.le_of_ble_eq_true rfl) (Nat.le_of_ble_eq_true rfl) rfl (fun q41 => ?_)
      refine V_aload_n (pc := 44) dX11_wed_44 rfl rfl ?_
      refine V_getr (pc := 45) (t := 3) fk_X11_19 rfl dX11_wed_45 kc_0 rf_11_1_0 ?_
      refine V_iload_n (pc := 48) dX11_wed_48 rfl rfl ?_
      refine V_iload_n (pc := 49) dX11_wed_49 rfl rfl ?_
      refine V_callVv (pc := 50) (As := [.int p1, .int p2]) (rest := []) (c_X4_marry w 3 p1 p2 kc_3 q41.2) cw_X11_242 rfl rfl dX11_wed_50 kc_3 ci_4 ⟨Nat.le_of_ble_eq_true rfl, Nat.le_of_ble_eq_true rfl⟩ rfl rfl (Nat.le_of_ble_eq_true rfl) (Nat.le_of_ble_eq_true rfl) (Nat.le_of_ble_eq_true rfl) rfl (fun q50 => ?_)
      exact VX_ret (pc := 53) dX11_wed_53 rfl (hk := fun h => h)
    · refine V_widen (kc' := 3) (ks' := 18) (Nat.le_of_ble_eq_true rfl) (Nat.le_of_ble_eq_true rfl) ?_
      refine V_sub (vs' := [none, none, none]) (show vless _ _ from trivial) rfl ?_
      exact hJ32 s3
def f_X11_clear (p1 : Int32) (σ : MS) : Option (XRes) := (thn (f_X11_needPerson p1 σ) (fun v2 s2 => ((f_X11_remember  s2).bind (fun q6 => (if inb p1 8 then (if inb p1 8 then ltM (mu q6.2 6 (ix p1) (0 : Int32)) (fun s28 => some (.inl (q6.2 6 (ix p1)), s28)) else none) else none)))) (fun e s => some (.inr e, s)))
set_option maxRecDepth 20000 in
set_option maxHeartbeats 2000000 in
theorem c_X11_clear (w : TG) (p1 : Int32) (σ : MS) : MX m_X11_clear w [.ref (wB w + 0), .int p1] σ (f_X11_clear p1 σ) := by
  refine VX_meth (by decide +kernel) (Nat.le_of_ble_eq_true rfl) (by intro v hv; simp only [List.mem_cons, List.not_mem_nil, or_false] at hv; rcases hv with rfl | rfl <;> rfl) (fun g x hno => ?_)
  show VV m_X11_clear w g 0 0 (QX m_X11_clear w g x) (fun b : XRes => b = x) 0 [some (.ref (wB w + 0)), some (.int p1), none] [] σ (f_X11_clear p1 σ)
  refine V_aload_n (pc := 0) dX11_clear_0 rfl rfl ?_
  refine V_iload_n (pc := 1) dX11_clear_1 rfl rfl ?_
  refine VX_call (pc := 2) (As := [.int p1]) (rest := []) hno (c_X11_needPerson w p1 σ) cw_X11_146 rfl dX11_clear_2 kc_0 ci_11 ⟨Nat.le_of_ble_eq_true rfl, Nat.le_of_ble_eq_true rfl⟩ rfl rfl (Nat.le_of_ble_eq_true rfl) (Nat.le_of_ble_eq_true rfl) (Nat.le_of_ble_eq_true rfl) (fun e s b h k => by cases h; exact k) (fun v2 s2 => ?_)
  show VV m_X11_clear w g 1 6 (QX m_X11_clear w g x) (fun b : XRes => b = x) 5 [some (.ref (wB w + 0)), some (.int p1), none] [] s2 _
  refine V_aload_n (pc := 5) dX11_clear_5 rfl rfl ?_
  refine V_callVv (pc := 6) (As := []) (rest := []) (c_X11_remember w  s2) cw_X11_218 rfl rfl dX11_clear_6 kc_0 ci_11 ⟨Nat.le_of_ble_eq_true rfl, Nat.le_of_ble_eq_true rfl⟩ rfl rfl (Nat.le_of_ble_eq_true rfl) (Nat.le_of_ble_eq_true rfl) (Nat.le_of_ble_eq_true rfl) rfl (fun q6 => ?_)
  refine V_aload_n (pc := 9) dX11_clear_9 rfl rfl ?_
  refine V_getr (pc := 10) (t := 3) fk_X11_19 rfl dX11_clear_10 kc_0 rf_11_1_0 ?_
  refine V_getr (pc := 13) (t := 6) fk_X11_156 rfl dX11_clear_13 kc_3 rf_4_10_3 ?_
  refine V_iload_n (pc := 16) dX11_clear_16 rfl rfl ?_
  refine V_iald (pc := 17) (n := 8) dX11_clear_17 kc_6 lc_6 ?_
  refine V_istore_n (pc := 18) (vs' := [some (.ref (wB w + 0)), some (.int p1), some (.int (q6.2 6 (ix p1)))]) dX11_clear_18 rfl (Nat.le_of_ble_eq_true rfl) (Nat.le_of_ble_eq_true rfl) rfl ?_
  refine V_aload_n (pc := 19) dX11_clear_19 rfl rfl ?_
  refine V_getr (pc := 20) (t := 3) fk_X11_19 rfl dX11_clear_20 kc_0 rf_11_1_0 ?_
  refine V_getr (pc := 23) (t := 6) fk_X11_156 rfl dX11_clear_23 kc_3 rf_4_10_3 ?_
  refine V_iload_n (pc := 26) dX11_clear_26 rfl rfl ?_
  refine V_iconst (pc := 27) dX11_clear_27 ic_0 ?_
  refine V_iast (pc := 28) (n := 8) dX11_clear_28 kc_6 lc_6 (fun s28 => ?_)
  refine V_iload_n (pc := 29) dX11_clear_29 rfl rfl ?_
  exact VX_ireti (pc := 30) dX11_clear_30 rfl (hk := fun h => h)
