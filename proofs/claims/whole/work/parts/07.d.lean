def m_X5_takeNumber : MD := (yX5_takeNumber, cX5_takeNumber, 4, (some .int), 2, 42, 0, 0)
def m_X5_tellsPerson : MD := (yX5_tellsPerson, cX5_tellsPerson, 3, (some .boolean), 6, 247, 0, 0)
def m_X5_tellsLikes : MD := (yX5_tellsLikes, cX5_tellsLikes, 4, (some .boolean), 3, 65, 0, 0)
def m_X5_takeSingle : MD := (yX5_takeSingle, cX5_takeSingle, 4, (some .int), 2, 42, 0, 0)
def m_X5_tellsWed : MD := (yX5_tellsWed, cX5_tellsWed, 4, (some .boolean), 3, 65, 0, 0)
def m_X5_tellsFlour : MD := (yX5_tellsFlour, cX5_tellsFlour, 5, (some .boolean), 2, 42, 0, 0)
def m_X5_tellsBond : MD := (yX5_tellsBond, cX5_tellsBond, 6, (some .boolean), 6, 247, 0, 0)
def m_X5_tellsLine : MD := (yX5_tellsLine, cX5_tellsLine, 3, (some .boolean), 7, 272, 0, 0)
def m_X5_tells : MD := (yX5_tells, cX5_tells, 3, (some .boolean), 8, 294, 0, 0)
def m_X7_tellsSum : MD := (yX7_tellsSum, cX7_tellsSum, 5, (some .boolean), 5, 226, 0, 0)
def mr_X7_tellsAtom (d : Nat) : MD := (yX7_tellsAtom, cX7_tellsAtom, 7, (some .boolean), 6 + d, 250 + 26 * d, 0, 0)
def m_X7_tellsAtom : MD := mr_X7_tellsAtom 30
def mr_X7_tellsCondition (d : Nat) : MD := (yX7_tellsCondition, cX7_tellsCondition, 6, (some .boolean), 6 + d, 250 + 26 * d, 0, 0)
def m_X7_tellsCondition : MD := mr_X7_tellsCondition 30
abbrev RT_gt : Type := (Nat → Int32 → MS → Option (Int32 × MS)) × (Nat → Int32 → MS → Option (Int32 × MS))
def m_X7_tellsLine : MD := (yX7_tellsLine, cX7_tellsLine, 4, (some .boolean), 37, 1055, 0, 0)
def m_X7_tells : MD := (yX7_tells, cX7_tells, 3, (some .boolean), 38, 1078, 0, 0)
def m_X8_gladder : MD := (yX8_gladder, cX8_gladder, 6, (some .int), 4, 93, 0, 0)
def m_X8_areLovers : MD := (yX8_areLovers, cX8_areLovers, 3, (some .boolean), 5, 118, 0, 0)
def m_X8_firstLovers : MD := (yX8_firstLovers, cX8_firstLovers, 3, (some .int), 6, 140, 0, 0)
def m_X8_manyLovers : MD := (yX8_manyLovers, cX8_manyLovers, 4, (some .int), 6, 140, 0, 0)
def m_X8_wouldLeave : MD := (yX8_wouldLeave, cX8_wouldLeave, 4, (some .boolean), 1, 22, 0, 0)
def m_X8_keepIfSteady : MD := (yX8_keepIfSteady, cX8_keepIfSteady, 3, none, 4, 200, 0, 0)
def mr_X8_place (d : Nat) : MD := (yX8_place, cX8_place, 4, none, 5 + d, 222 + 23 * d, 0, 0)
def m_X8_place : MD := mr_X8_place 30
abbrev RT_gp : Type := (Int32 → Int32 → MS → Option (Int32 × MS))
def m_X8_settle : MD := (yX8_settle, cX8_settle, 2, none, 36, 935, 0, 0)
def mr_X8_greatestFrom (d : Nat) : MD := (yX8_greatestFrom, cX8_greatestFrom, 6, (some .int), 4 + d, 200 + 25 * d, 0, 0)
def m_X8_greatestFrom : MD := mr_X8_greatestFrom 30
abbrev RT_gg : Type := (Int32 → Int32 → MS → Option (Int32))
def m_X8_greatest : MD := (yX8_greatest, cX8_greatest, 1, (some .int), 35, 975, 0, 0)
theorem fk_X5_9 : fk RX5 9 5 0 := ⟨_, _, _, rfl, in_5, by decide, rfl, by decide, gx 324 (by decide +kernel) (by decide +kernel)⟩
theorem wm_X9_number : wmp m_X9_number 2 := ⟨gx 781 (by decide +kernel) (by decide +kernel), gx 782 (by decide +kernel) (by decide +kernel), gx 128 (by decide +kernel) (by decide +kernel), gx 783 (by decide +kernel) (by decide +kernel), by decide +kernel, by decide +kernel, by decide +kernel⟩
theorem cw_X5_75 : cwp RX5 75 m_X9_number 2 := cwp_of wm_X9_number (gx 780 (by decide +kernel) (by decide +kernel))
theorem cw_X5_44 : cwp RX5 44 m_X9_advance 0 := cwp_of wm_X9_advance (gx 765 (by decide +kernel) (by decide +kernel))
theorem wm_X9_skipWord : wmp m_X9_skipWord 1 := ⟨gx 772 (by decide +kernel) (by decide +kernel), gx 773 (by decide +kernel) (by decide +kernel), gx 128 (by decide +kernel) (by decide +kernel), gx 774 (by decide +kernel) (by decide +kernel), by decide +kernel, by decide +kernel, by decide +kernel⟩
theorem cw_X5_80 : cwp RX5 80 m_X9_skipWord 1 := cwp_of wm_X9_skipWord (gx 771 (by decide +kernel) (by decide +kernel))
theorem wm_X5_takeNumber : wmp m_X5_takeNumber 2 := ⟨gx 778 (by decide +kernel) (by decide +kernel), gx 7 (by decide +kernel) (by decide +kernel), gx 131 (by decide +kernel) (by decide +kernel), gx 779 (by decide +kernel) (by decide +kernel), by decide +kernel, by decide +kernel, by decide +kernel⟩
theorem cw_X5_59 : cwp RX5 59 m_X5_takeNumber 2 := cwp_of wm_X5_takeNumber (gx 776 (by decide +kernel) (by decide +kernel))
theorem wm_X4_enter : wmp m_X4_enter 1 := ⟨gx 785 (by decide +kernel) (by decide +kernel), gx 786 (by decide +kernel) (by decide +kernel), gx 129 (by decide +kernel) (by decide +kernel), gx 787 (by decide +kernel) (by decide +kernel), by decide +kernel, by decide +kernel, by decide +kernel⟩
theorem cw_X5_84 : cwp RX5 84 m_X4_enter 1 := cwp_of wm_X4_enter (gx 784 (by decide +kernel) (by decide +kernel))
theorem fk_X5_38 : fk RX5 38 4 0 := ⟨_, _, _, rfl, in_4, by decide, rfl, by decide, gx 204 (by decide +kernel) (by decide +kernel)⟩
theorem fk_X5_92 : fk RX5 92 4 12 := ⟨_, _, _, rfl, in_4, by decide, rfl, by decide, gx 249 (by decide +kernel) (by decide +kernel)⟩
theorem fk_X5_96 : fk RX5 96 9 0 := ⟨_, _, _, rfl, in_9, by decide, rfl, by decide, gx 171 (by decide +kernel) (by decide +kernel)⟩
theorem fk_X5_99 : fk RX5 99 9 2 := ⟨_, _, _, rfl, in_9, by decide, rfl, by decide, gx 176 (by decide +kernel) (by decide +kernel)⟩
theorem wm_X9_isFigures : wmp m_X9_isFigures 1 := ⟨gx 793 (by decide +kernel) (by decide +kernel), gx 794 (by decide +kernel) (by decide +kernel), gx 128 (by decide +kernel) (by decide +kernel), gx 795 (by decide +kernel) (by decide +kernel), by decide +kernel, by decide +kernel, by decide +kernel⟩
theorem cw_X5_88 : cwp RX5 88 m_X9_isFigures 1 := cwp_of wm_X9_isFigures (gx 792 (by decide +kernel) (by decide +kernel))
theorem fk_X5_110 : fk RX5 110 4 9 := ⟨_, _, _, rfl, in_4, by decide, rfl, by decide, gx 241 (by decide +kernel) (by decide +kernel)⟩
theorem wm_X5_takeSingle : wmp m_X5_takeSingle 2 := ⟨gx 802 (by decide +kernel) (by decide +kernel), gx 10 (by decide +kernel) (by decide +kernel), gx 131 (by decide +kernel) (by decide +kernel), gx 803 (by decide +kernel) (by decide +kernel), by decide +kernel, by decide +kernel, by decide +kernel⟩
theorem cw_X5_102 : cwp RX5 102 m_X5_takeSingle 2 := cwp_of wm_X5_takeSingle (gx 800 (by decide +kernel) (by decide +kernel))
theorem wm_X4_marry : wmp m_X4_marry 2 := ⟨gx 805 (by decide +kernel) (by decide +kernel), gx 806 (by decide +kernel) (by decide +kernel), gx 129 (by decide +kernel) (by decide +kernel), gx 807 (by decide +kernel) (by decide +kernel), by decide +kernel, by decide +kernel, by decide +kernel⟩
theorem cw_X5_106 : cwp RX5 106 m_X4_marry 2 := cwp_of wm_X4_marry (gx 804 (by decide +kernel) (by decide +kernel))
theorem fk_X5_116 : fk RX5 116 9 3 := ⟨_, _, _, rfl, in_9, by decide, rfl, by decide, gx 179 (by decide +kernel) (by decide +kernel)⟩
theorem fp_X5_119 : fp RX5 119 4 2 .int := ⟨_, _, _, tyX4, rfl, in_4, by decide, rfl, by decide, gx 213 (by decide +kernel) (by decide +kernel), rfl, by decide +kernel, tyX4_ok, nmX4⟩
theorem wm_X9_isWord : wmp m_X9_isWord 0 := ⟨gx 813 (by decide +kernel) (by decide +kernel), gx 814 (by decide +kernel) (by decide +kernel), gx 128 (by decide +kernel) (by decide +kernel), gx 815 (by decide +kernel) (by decide +kernel), by decide +kernel, by decide +kernel, by decide +kernel⟩
theorem cw_X5_113 : cwp RX5 113 m_X9_isWord 0 := cwp_of wm_X9_isWord (gx 812 (by decide +kernel) (by decide +kernel))
theorem cw_X5_124 : cwp RX5 124 m_X4_tie 4 := cwp_of wm_X4_tie (gx 821 (by decide +kernel) (by decide +kernel))
theorem wm_X5_tellsPerson : wmp m_X5_tellsPerson 1 := ⟨gx 768 (by decide +kernel) (by decide +kernel), gx 6 (by decide +kernel) (by decide +kernel), gx 131 (by decide +kernel) (by decide +kernel), gx 769 (by decide +kernel) (by decide +kernel), by decide +kernel, by decide +kernel, by decide +kernel⟩
theorem cw_X5_47 : cwp RX5 47 m_X5_tellsPerson 1 := cwp_of wm_X5_tellsPerson (gx 766 (by decide +kernel) (by decide +kernel))
theorem wm_X5_tellsLikes : wmp m_X5_tellsLikes 1 := ⟨gx 790 (by decide +kernel) (by decide +kernel), gx 8 (by decide +kernel) (by decide +kernel), gx 131 (by decide +kernel) (by decide +kernel), gx 791 (by decide +kernel) (by decide +kernel), by decide +kernel, by decide +kernel, by decide +kernel⟩
theorem cw_X5_50 : cwp RX5 50 m_X5_tellsLikes 1 := cwp_of wm_X5_tellsLikes (gx 788 (by decide +kernel) (by decide +kernel))
theorem wm_X5_tellsWed : wmp m_X5_tellsWed 1 := ⟨gx 798 (by decide +kernel) (by decide +kernel), gx 9 (by decide +kernel) (by decide +kernel), gx 131 (by decide +kernel) (by decide +kernel), gx 799 (by decide +kernel) (by decide +kernel), by decide +kernel, by decide +kernel, by decide +kernel⟩
theorem cw_X5_53 : cwp RX5 53 m_X5_tellsWed 1 := cwp_of wm_X5_tellsWed (gx 796 (by decide +kernel) (by decide +kernel))
theorem wm_X5_tellsFlour : wmp m_X5_tellsFlour 1 := ⟨gx 810 (by decide +kernel) (by decide +kernel), gx 11 (by decide +kernel) (by decide +kernel), gx 131 (by decide +kernel) (by decide +kernel), gx 811 (by decide +kernel) (by decide +kernel), by decide +kernel, by decide +kernel, by decide +kernel⟩
theorem cw_X5_56 : cwp RX5 56 m_X5_tellsFlour 1 := cwp_of wm_X5_tellsFlour (gx 808 (by decide +kernel) (by decide +kernel))
theorem fp_X5_63 : fp RX5 63 4 3 .int := ⟨_, _, _, tyX4, rfl, in_4, by decide, rfl, by decide, gx 216 (by decide +kernel) (by decide +kernel), rfl, by decide +kernel, tyX4_ok, nmX4⟩
theorem fk_X5_63 : fk RX5 63 4 3 := ⟨_, _, _, rfl, in_4, by decide, rfl, by decide, gx 216 (by decide +kernel) (by decide +kernel)⟩
theorem fp_X5_66 : fp RX5 66 4 4 .int := ⟨_, _, _, tyX4, rfl, in_4, by decide, rfl, by decide, gx 220 (by decide +kernel) (by decide +kernel), rfl, by decide +kernel, tyX4_ok, nmX4⟩
theorem fk_X5_66 : fk RX5 66 4 4 := ⟨_, _, _, rfl, in_4, by decide, rfl, by decide, gx 220 (by decide +kernel) (by decide +kernel)⟩
theorem wm_X5_tellsBond : wmp m_X5_tellsBond 1 := ⟨gx 818 (by decide +kernel) (by decide +kernel), gx 12 (by decide +kernel) (by decide +kernel), gx 131 (by decide +kernel) (by decide +kernel), gx 819 (by decide +kernel) (by decide +kernel), by decide +kernel, by decide +kernel, by decide +kernel⟩
theorem cw_X5_69 : cwp RX5 69 m_X5_tellsBond 1 := cwp_of wm_X5_tellsBond (gx 816 (by decide +kernel) (by decide +kernel))
theorem fp_X5_72 : fp RX5 72 4 5 .int := ⟨_, _, _, tyX4, rfl, in_4, by decide, rfl, by decide, gx 225 (by decide +kernel) (by decide +kernel), rfl, by decide +kernel, tyX4_ok, nmX4⟩
theorem fk_X5_72 : fk RX5 72 4 5 := ⟨_, _, _, rfl, in_4, by decide, rfl, by decide, gx 225 (by decide +kernel) (by decide +kernel)⟩
theorem cw_X5_34 : cwp RX5 34 m_X9_wordAmong 1 := cwp_of wm_X9_wordAmong (gx 713 (by decide +kernel) (by decide +kernel))
theorem wm_X5_tellsLine : wmp m_X5_tellsLine 1 := ⟨gx 710 (by decide +kernel) (by decide +kernel), gx 5 (by decide +kernel) (by decide +kernel), gx 131 (by decide +kernel) (by decide +kernel), gx 711 (by decide +kernel) (by decide +kernel), by decide +kernel, by decide +kernel, by decide +kernel⟩
theorem cw_X5_24 : cwp RX5 24 m_X5_tellsLine 1 := cwp_of wm_X5_tellsLine (gx 708 (by decide +kernel) (by decide +kernel))
theorem wm_X9_isOver : wmp m_X9_isOver 0 := ⟨gx 705 (by decide +kernel) (by decide +kernel), gx 706 (by decide +kernel) (by decide +kernel), gx 128 (by decide +kernel) (by decide +kernel), gx 707 (by decide +kernel) (by decide +kernel), by decide +kernel, by decide +kernel, by decide +kernel⟩
theorem cw_X5_20 : cwp RX5 20 m_X9_isOver 0 := cwp_of wm_X9_isOver (gx 704 (by decide +kernel) (by decide +kernel))
theorem wm_X9_skipSign : wmp m_X9_skipSign 1 := ⟨gx 826 (by decide +kernel) (by decide +kernel), gx 827 (by decide +kernel) (by decide +kernel), gx 128 (by decide +kernel) (by decide +kernel), gx 828 (by decide +kernel) (by decide +kernel), by decide +kernel, by decide +kernel, by decide +kernel⟩
theorem cw_X5_28 : cwp RX5 28 m_X9_skipSign 1 := cwp_of wm_X9_skipSign (gx 825 (by decide +kernel) (by decide +kernel))
theorem wm_X9_begin : wmp m_X9_begin 0 := ⟨gx 693 (by decide +kernel) (by decide +kernel), gx 694 (by decide +kernel) (by decide +kernel), gx 128 (by decide +kernel) (by decide +kernel), gx 695 (by decide +kernel) (by decide +kernel), by decide +kernel, by decide +kernel, by decide +kernel⟩
theorem cw_X5_15 : cwp RX5 15 m_X9_begin 0 := cwp_of wm_X9_begin (gx 692 (by decide +kernel) (by decide +kernel))
theorem fk_X7_9 : fk RX7 9 7 0 := ⟨_, _, _, rfl, in_7, by decide, rfl, by decide, gx 334 (by decide +kernel) (by decide +kernel)⟩
theorem cw_X7_75 : cwp RX7 75 m_X9_isSign 1 := cwp_of wm_X9_isSign (gx 954 (by decide +kernel) (by decide +kernel))
theorem cw_X7_41 : cwp RX7 41 m_X9_advance 0 := cwp_of wm_X9_advance (gx 941 (by decide +kernel) (by decide +kernel))
theorem wm_X6_addStep : wmp m_X6_addStep 1 := ⟨gx 957 (by decide +kernel) (by decide +kernel), gx 958 (by decide +kernel) (by decide +kernel), gx 130 (by decide +kernel) (by decide +kernel), gx 959 (by decide +kernel) (by decide +kernel), by decide +kernel, by decide +kernel, by decide +kernel⟩
theorem cw_X7_65 : cwp RX7 65 m_X6_addStep 1 := cwp_of wm_X6_addStep (gx 956 (by decide +kernel) (by decide +kernel))
theorem cw_X7_44 : cwp RX7 44 m_X9_number 2 := cwp_of wm_X9_number (gx 942 (by decide +kernel) (by decide +kernel))
theorem cw_X7_37 : cwp RX7 37 m_X9_wordAmong 1 := cwp_of wm_X9_wordAmong (gx 940 (by decide +kernel) (by decide +kernel))
theorem wm_X7_tellsSum : wmp m_X7_tellsSum 1 := ⟨gx 963 (by decide +kernel) (by decide +kernel), gx 18 (by decide +kernel) (by decide +kernel), gx 132 (by decide +kernel) (by decide +kernel), gx 964 (by decide +kernel) (by decide +kernel), by decide +kernel, by decide +kernel, by decide +kernel⟩
theorem cw_X7_80 : cwp RX7 80 m_X7_tellsSum 1 := cwp_of wm_X7_tellsSum (gx 961 (by decide +kernel) (by decide +kernel))
theorem wm_X7_tellsAtom : wmp m_X7_tellsAtom 2 := ⟨gx 951 (by decide +kernel) (by decide +kernel), gx 17 (by decide +kernel) (by decide +kernel), gx 132 (by decide +kernel) (by decide +kernel), gx 952 (by decide +kernel) (by decide +kernel), by decide +kernel, by decide +kernel, by decide +kernel⟩
theorem cw_X7_62 : cwp RX7 62 m_X7_tellsAtom 2 := cwp_of wm_X7_tellsAtom (gx 949 (by decide +kernel) (by decide +kernel))
theorem wm_X7_tellsCondition : wmp m_X7_tellsCondition 2 := ⟨gx 947 (by decide +kernel) (by decide +kernel), gx 16 (by decide +kernel) (by decide +kernel), gx 132 (by decide +kernel) (by decide +kernel), gx 948 (by decide +kernel) (by decide +kernel), by decide +kernel, by decide +kernel, by decide +kernel⟩
theorem cw_X7_54 : cwp RX7 54 m_X7_tellsCondition 2 := cwp_of wm_X7_tellsCondition (gx 945 (by decide +kernel) (by decide +kernel))
theorem cw_X7_31 : cwp RX7 31 m_X9_skipSign 1 := cwp_of wm_X9_skipSign (gx 955 (by decide +kernel) (by decide +kernel))
theorem cw_X7_50 : cwp RX7 50 m_X9_skipWord 1 := cwp_of wm_X9_skipWord (gx 944 (by decide +kernel) (by decide +kernel))
theorem wm_X6_addLine : wmp m_X6_addLine 2 := ⟨gx 969 (by decide +kernel) (by decide +kernel), gx 970 (by decide +kernel) (by decide +kernel), gx 130 (by decide +kernel) (by decide +kernel), gx 971 (by decide +kernel) (by decide +kernel), by decide +kernel, by decide +kernel, by decide +kernel⟩
theorem cw_X7_58 : cwp RX7 58 m_X6_addLine 2 := cwp_of wm_X6_addLine (gx 968 (by decide +kernel) (by decide +kernel))
theorem wm_X7_tellsLine : wmp m_X7_tellsLine 1 := ⟨gx 937 (by decide +kernel) (by decide +kernel), gx 15 (by decide +kernel) (by decide +kernel), gx 132 (by decide +kernel) (by decide +kernel), gx 938 (by decide +kernel) (by decide +kernel), by decide +kernel, by decide +kernel, by decide +kernel⟩
theorem cw_X7_27 : cwp RX7 27 m_X7_tellsLine 1 := cwp_of wm_X7_tellsLine (gx 935 (by decide +kernel) (by decide +kernel))
theorem cw_X7_23 : cwp RX7 23 m_X9_isOver 0 := cwp_of wm_X9_isOver (gx 934 (by decide +kernel) (by decide +kernel))
theorem wm_X6_begin : wmp m_X6_begin 0 := ⟨gx 930 (by decide +kernel) (by decide +kernel), gx 931 (by decide +kernel) (by decide +kernel), gx 130 (by decide +kernel) (by decide +kernel), gx 932 (by decide +kernel) (by decide +kernel), by decide +kernel, by decide +kernel, by decide +kernel⟩
theorem cw_X7_15 : cwp RX7 15 m_X6_begin 0 := cwp_of wm_X6_begin (gx 929 (by decide +kernel) (by decide +kernel))
theorem cw_X7_20 : cwp RX7 20 m_X9_begin 0 := cwp_of wm_X9_begin (gx 933 (by decide +kernel) (by decide +kernel))
theorem fk_X8_18 : fk RX8 18 8 0 := ⟨_, _, _, rfl, in_8, by decide, rfl, by decide, gx 370 (by decide +kernel) (by decide +kernel)⟩
theorem fk_X8_32 : fk RX8 32 4 0 := ⟨_, _, _, rfl, in_4, by decide, rfl, by decide, gx 202 (by decide +kernel) (by decide +kernel)⟩
theorem cw_X8_28 : cwp RX8 28 m_X4_likingOf 2 := cwp_of wm_X4_likingOf (gx 576 (by decide +kernel) (by decide +kernel))
theorem cw_X8_22 : cwp RX8 22 m_X4_closest 1 := cwp_of wm_X4_closest (gx 568 (by decide +kernel) (by decide +kernel))
theorem wm_X8_gladder : wmp m_X8_gladder 1 := ⟨gx 565 (by decide +kernel) (by decide +kernel), gx 566 (by decide +kernel) (by decide +kernel), gx 135 (by decide +kernel) (by decide +kernel), gx 567 (by decide +kernel) (by decide +kernel), by decide +kernel, by decide +kernel, by decide +kernel⟩
theorem cw_X8_36 : cwp RX8 36 m_X8_gladder 1 := cwp_of wm_X8_gladder (gx 564 (by decide +kernel) (by decide +kernel))
theorem wm_X8_areLovers : wmp m_X8_areLovers 2 := ⟨gx 562 (by decide +kernel) (by decide +kernel), gx 1 (by decide +kernel) (by decide +kernel), gx 135 (by decide +kernel) (by decide +kernel), gx 563 (by decide +kernel) (by decide +kernel), by decide +kernel, by decide +kernel, by decide +kernel⟩
theorem cw_X8_39 : cwp RX8 39 m_X8_areLovers 2 := cwp_of wm_X8_areLovers (gx 560 (by decide +kernel) (by decide +kernel))
theorem fk_X8_9 : fk RX8 9 8 1 := ⟨_, _, _, rfl, in_8, by decide, rfl, by decide, gx 371 (by decide +kernel) (by decide +kernel)⟩
theorem fk_X8_43 : fk RX8 43 8 3 := ⟨_, _, _, rfl, in_8, by decide, rfl, by decide, gx 374 (by decide +kernel) (by decide +kernel)⟩
theorem fp_X8_43 : fp RX8 43 8 3 .int := ⟨_, _, _, tyX8, rfl, in_8, by decide, rfl, by decide, gx 374 (by decide +kernel) (by decide +kernel), rfl, by decide +kernel, tyX8_ok, nmX8⟩
theorem wm_X8_wouldLeave : wmp m_X8_wouldLeave 2 := ⟨gx 1292 (by decide +kernel) (by decide +kernel), gx 36 (by decide +kernel) (by decide +kernel), gx 135 (by decide +kernel) (by decide +kernel), gx 1293 (by decide +kernel) (by decide +kernel), by decide +kernel, by decide +kernel, by decide +kernel⟩
theorem cw_X8_53 : cwp RX8 53 m_X8_wouldLeave 2 := cwp_of wm_X8_wouldLeave (gx 1290 (by decide +kernel) (by decide +kernel))
theorem fk_X8_15 : fk RX8 15 8 2 := ⟨_, _, _, rfl, in_8, by decide, rfl, by decide, gx 372 (by decide +kernel) (by decide +kernel)⟩
theorem cpw_X8_56 : Cond.methodLink RX8 56 arraycopyName ∈ gtb ∧ Cond.native arraycopyName ∈ gtb ∧ Cond.static arraycopyName ∈ gtb ∧ Cond.initialized "java/lang/System" ∈ gtb := ⟨gx 1294 (by decide +kernel) (by decide +kernel), copyw⟩
theorem wm_X8_place : wmp m_X8_place 2 := ⟨gx 1284 (by decide +kernel) (by decide +kernel), gx 34 (by decide +kernel) (by decide +kernel), gx 135 (by decide +kernel) (by decide +kernel), gx 1285 (by decide +kernel) (by decide +kernel), by decide +kernel, by decide +kernel, by decide +kernel⟩
theorem cw_X8_46 : cwp RX8 46 m_X8_place 2 := cwp_of wm_X8_place (gx 1282 (by decide +kernel) (by decide +kernel))
theorem wm_X8_keepIfSteady : wmp m_X8_keepIfSteady 0 := ⟨gx 1288 (by decide +kernel) (by decide +kernel), gx 35 (by decide +kernel) (by decide +kernel), gx 135 (by decide +kernel) (by decide +kernel), gx 1289 (by decide +kernel) (by decide +kernel), by decide +kernel, by decide +kernel, by decide +kernel⟩
theorem cw_X8_50 : cwp RX8 50 m_X8_keepIfSteady 0 := cwp_of wm_X8_keepIfSteady (gx 1286 (by decide +kernel) (by decide +kernel))
theorem wm_X8_greatestFrom : wmp m_X8_greatestFrom 2 := ⟨gx 598 (by decide +kernel) (by decide +kernel), gx 2 (by decide +kernel) (by decide +kernel), gx 135 (by decide +kernel) (by decide +kernel), gx 599 (by decide +kernel) (by decide +kernel), by decide +kernel, by decide +kernel, by decide +kernel⟩
theorem cw_X8_66 : cwp RX8 66 m_X8_greatestFrom 2 := cwp_of wm_X8_greatestFrom (gx 596 (by decide +kernel) (by decide +kernel))
theorem mw_X8_69 : Cond.methodLink RX8 69 Lib.Math.max.name ∈ gtb ∧ Cond.static Lib.Math.max.name ∈ gtb ∧ Cond.initialized "java/lang/Math" ∈ gtb ∧ Cond.code Lib.Math.max.name Lib.Math.max.code 2 (some .int) ∈ gtb := ⟨gx 600 (by decide +kernel) (by decide +kernel), math_max⟩
theorem cw_X8_62 : cwp RX8 62 m_X4_everybody 0 := cwp_of wm_X4_everybody (gx 592 (by decide +kernel) (by decide +kernel))
def J_X5_takeNumber_22 (n : Nat) (v3 : Int32) (σ : MS) : Option (Int32 × MS) := some (v3, σ)
def f_X5_takeNumber (n : Nat) (p1 : Int32) (p2 : Int32) (σ : MS) : Option (Int32 × MS) := ((f_X9_number n p1 p2 σ).bind (fun q6 => (if q6 = (-1 : Int32) then J_X5_takeNumber_22 n q6 σ else ((f_X9_advance n  σ).bind (fun q19 => J_X5_takeNumber_22 n q6 q19.2)))))
set_option maxRecDepth 20000 in
set_option maxHeartbeats 2000000 in
theorem c_X5_takeNumber (w : TG) (n : Nat) (p1 : Int32) (p2 : Int32) (σ : MS) : MC m_X5_takeNumber w [.ref (wB w + 51), .int p1, .int p2] σ (f_X5_takeNumber n p1 p2 σ) := by
  refine V_meth (by decide +kernel) (Nat.le_of_ble_eq_true rfl) (by intro v hv; simp only [List.mem_cons, List.not_mem_nil, or_false] at hv; rcases hv with rfl | rfl | rfl <;> rfl) (fun g x => ?_)
  show VV m_X5_takeNumber w g 0 0 (QM m_X5_takeNumber w g x) (fun b : Int32 × MS => b = x) 0 [some (.ref (wB w + 51)), some (.int p1), some (.int p2), none] [] σ (f_X5_takeNumber n p1 p2 σ)
  have hJ22 : ∀ (v3 : Int32) (σ : MS), VV m_X5_takeNumber w g 0 0 (QM m_X5_takeNumber w g x) (fun b : Int32 × MS => b = x) 22 [none, none, none, some (.int v3)] [] σ (J_X5_takeNumber_22 n v3 σ) := by
    intro v3 σ
    refine V_iload_n (pc := 22) dX5_takeNumber_22 rfl rfl ?_
    exact V_ireti (pc := 23) dX5_takeNumber_23 rfl (hk := fun h => h)
  refine V_aload_n (pc := 0) dX5_takeNumber_0 rfl rfl ?_
  refine V_getr (pc := 1) (t := 1) fk_X5_9 rfl dX5_takeNumber_1 kc_51 rf_5_0_51 ?_
  refine V_iload_n (pc := 4) dX5_takeNumber_4 rfl rfl ?_
  refine V_iload_n (pc := 5) dX5_takeNumber_5 rfl rfl ?_
  refine V_callVpi (pc := 6) (As := [.int p1, .int p2]) (rest := []) (c_X9_number w n p1 p2 σ) cw_X5_75 rfl rfl dX5_takeNumber_6 kc_1 ci_9 ⟨Nat.le_of_ble_eq_true rfl, Nat.le_of_ble_eq_true rfl⟩ rfl rfl (Nat.le_of_ble_eq_true rfl) (Nat.le_of_ble_eq_true rfl) (Nat.le_of_ble_eq_true rfl) rfl (fun q6 => ?_)
  refine V_istore_n (pc := 9) (vs' := [some (.ref (wB w + 51)), some (.int p1), some (.int p2), some (.int q6)]) dX5_takeNumber_9 rfl (Nat.le_of_ble_eq_true rfl) (Nat.le_of_ble_eq_true rfl) rfl ?_
  refine V_iload_n (pc := 10) dX5_takeNumber_10 rfl rfl ?_
  refine V_iconst (pc := 11) dX5_takeNumber_11 ic_m1 ?_
  refine V_icmp_eq (pc := 12) (tgt := 22) dX5_takeNumber_12 (by decide +kernel) ?_ ?_
  · refine V_sub (vs' := [none, none, none, some (.int q6)]) (show vless _ _ from ⟨rfl, trivial⟩) rfl ?_
    exact hJ22 q6 σ
  · refine V_aload_n (pc := 15) dX5_takeNumber_15 rfl rfl ?_
    refine V_getr (pc := 16) (t := 1) fk_X5_9 rfl dX5_takeNumber_16 kc_51 rf_5_0_51 ?_
    refine V_callVv (pc := 19) (As := []) (rest := []) (c_X9_advance w n  σ) cw_X5_44 rfl rfl dX5_takeNumber_19 kc_1 ci_9 ⟨Nat.le_of_ble_eq_true rfl, Nat.le_of_ble_eq_true rfl⟩ rfl rfl (Nat.le_of_ble_eq_true rfl) (Nat.le_of_ble_eq_true rfl) (Nat.le_of_ble_eq_true rfl) rfl (fun q19 => ?_)
    refine V_sub (vs' := [none, none, none, some (.int q6)]) (show vless _ _ from ⟨rfl, trivial⟩) rfl ?_
    exact hJ22 q6 q19.2
def f_X5_tellsPerson (n : Nat) (h1 : Nat) (σ : MS) : Option (Int32 × MS) := ((f_X9_skipWord n 24 σ).bind (fun q6 => (if q6.1 = 0 then some ((0 : Int32), q6.2) else ((f_X5_takeNumber n (0 : Int32) (5 : Int32) q6.2).bind (fun q17 => (if q17.1 = (-1 : Int32) then some ((0 : Int32), q17.2) else ((f_X4_enter h1 q17.1 q17.2).bind (fun q30 => some ((1 : Int32), q30.2)))))))))
set_option maxRecDepth 20000 in
set_option maxHeartbeats 2000000 in
theorem c_X5_tellsPerson (w : TG) (n : Nat) (h1 : Nat) (k_h1 : kd h1 = 4) (σ : MS) : MC m_X5_tellsPerson w [.ref (wB w + 51), .ref (wB w + h1)] σ (f_X5_tellsPerson n h1 σ) := by
  refine V_meth (by decide +kernel) (Nat.le_of_ble_eq_true rfl) (by intro v hv; simp only [List.mem_cons, List.not_mem_nil, or_false] at hv; rcases hv with rfl | rfl <;> rfl) (fun g x => ?_)
  show VV m_X5_tellsPerson w g 0 0 (QM m_X5_tellsPerson w g x) (fun b : Int32 × MS => b = x) 0 [some (.ref (wB w + 51)), some (.ref (wB w + h1)), none] [] σ (f_X5_tellsPerson n h1 σ)
  refine V_aload_n (pc := 0) dX5_tellsPerson_0 rfl rfl ?_
  refine V_getr (pc := 1) (t := 1) fk_X5_9 rfl dX5_tellsPerson_1 kc_51 rf_5_0_51 ?_
  refine V_ldcS (pc := 4) (i := 24) (tx := "at") dX5_tellsPerson_4 rfl (show (RX5, 78, "at", 24) ∈ strT from by decide +kernel) ?_
  refine V_callVi (pc := 6) (As := [.ref (wS w 24)]) (rest := []) (c_X9_skipWord w n 24 (by decide) σ) cw_X5_80 rfl rfl dX5_tellsPerson_6 kc_1 ci_9 ⟨Nat.le_of_ble_eq_true rfl, Nat.le_of_ble_eq_true rfl⟩ rfl rfl (Nat.le_of_ble_eq_true rfl) (Nat.le_of_ble_eq_true rfl) (Nat.le_of_ble_eq_true rfl) rfl (fun q6 => ?_)
  refine V_if_ne (pc := 9) (tgt := 14) dX5_tellsPerson_9 (by decide +kernel) ?_ ?_
  · refine V_aload_n (pc := 14) dX5_tellsPerson_14 rfl rfl ?_
    refine V_iconst (pc := 15) dX5_tellsPerson_15 ic_0 ?_
    refine V_iconst (pc := 16) dX5_tellsPerson_16 ic_5 ?_
    refine V_callVi (pc := 17) (As := [.int (0 : Int32), .int (5 : Int32)]) (rest := []) (c_X5_takeNumber w n (0 : Int32) (5 : Int32) q6.2) cw_X5_59 rfl rfl dX5_tellsPerson_17 kc_51 ci_5 ⟨Nat.le_of_ble_eq_true rfl, Nat.le_of_ble_eq_true rfl⟩ rfl rfl (Nat.le_of_ble_eq_true rfl) (Nat.le_of_ble_eq_true rfl) (Nat.le_of_ble_eq_true rfl) rfl (fun q17 => ?_)
    refine V_istore_n (pc := 20) (vs' := [some (.ref (wB w + 51)), some (.ref (wB w + h1)), some (.int q17.1)]) dX5_tellsPerson_20 rfl (Nat.le_of_ble_eq_true rfl) (Nat.le_of_ble_eq_true rfl) rfl ?_
    refine V_iload_n (pc := 21) dX5_tellsPerson_21 rfl rfl ?_
    refine V_iconst (pc := 22) dX5_tellsPerson_22 ic_m1 ?_
    refine V_icmp_ne (pc := 23) (tgt := 28) dX5_tellsPerson_23 (by decide +kernel) ?_ ?_
    · refine V_aload_n (pc := 28) dX5_tellsPerson_28 rfl rfl ?_
      refine V_iload_n (pc := 29) dX5_tellsPerson_29 rfl rfl ?_
      refine V_callVv (pc := 30) (As := [.int q17.1]) (rest := []) (c_X4_enter w h1 q17.1 k_h1 q17.2) cw_X5_84 rfl rfl dX5_tellsPerson_30 k_h1 ci_4 ⟨Nat.le_of_ble_eq_true rfl, Nat.le_of_ble_eq_true rfl⟩ rfl rfl (Nat.le_of_ble_eq_true rfl) (Nat.le_of_ble_eq_true rfl) (Nat.le_of_ble_eq_true rfl) rfl (fun q30 => ?_)
      refine V_iconst (pc := 33) dX5_tellsPerson_33 ic_1 ?_
      exact V_iretz (pc := 34) dX5_tellsPerson_34 rfl rfl (hk := fun h => h)
    · refine V_iconst (pc := 26) dX5_tellsPerson_26 ic_0 ?_
      exact V_iretz (pc := 27) dX5_tellsPerson_27 rfl rfl (hk := fun h => h)
  · refine V_iconst (pc := 12) dX5_tellsPerson_12 ic_0 ?_
    exact V_iretz (pc := 13) dX5_tellsPerson_13 rfl rfl (hk := fun h => h)
def J_X5_tellsLikes_79 (n : Nat) (h1 : Nat) (v2 : Int32) (v3 : Int32) (σ : MS) : Option ((Int32 × MS) ⊕ (Int32 × MS)) := some (.inl ((v3 + (1 : Int32)), σ))
def L_X5_tellsLikes_35 (n : Nat) (h1 : Nat) (v2 : Int32) (σ : MS) (a35 : Int32 × MS) : Option ((Int32 × MS) ⊕ (Int32 × MS)) := (if (a35.2 h1 0) ≤ a35.1 then (((f_X9_advance n  a35.2).bind (fun q89 => some ((1 : Int32), q89.2)))).map Sum.inr else (if a35.1 = v2 then J_X5_tellsLikes_79 n h1 v2 a35.1 a35.2 else (if inb ((a35.2 1 2) + a35.1) 400 then (if inb ((v2 * (8 : Int32)) + a35.1) 64 then ltM (mu a35.2 (h1 + 5) (ix ((v2 * (8 : Int32)) + a35.1)) ((a35.2 2 (ix ((a35.2 1 2) + a35.1))) - (48 : Int32))) (fun s78 => J_X5_tellsLikes_79 n h1 v2 a35.1 s78) else none) else none)))
def J_X5_tellsLikes_31 (n : Nat) (h1 : Nat) (σ : MS) : Option (Int32 × MS) := some ((0 : Int32), σ)
def f_X5_tellsLikes (n : Nat) (h1 : Nat) (σ : MS) : Option (Int32 × MS) := ((f_X5_takeNumber n (0 : Int32) ((σ h1 0) - (1 : Int32)) σ).bind (fun q8 => (if q8.1 = (-1 : Int32) then J_X5_tellsLikes_31 n h1 q8.2 else ((f_X9_isFigures (q8.2 h1 0) q8.2).bind (fun q25 => (if q25 = 0 then J_X5_tellsLikes_31 n h1 q8.2 else itr (L_X5_tellsLikes_35 n h1 q8.1 σ) n ((0 : Int32), q8.2)))))))
set_option maxRecDepth 20000 in
set_option maxHeartbeats 2000000 in
theorem c_X5_tellsLikes (w : TG) (n : Nat) (h1 : Nat) (k_h1 : kd h1 = 4) (σ : MS) : MC m_X5_tellsLikes w [.ref (wB w + 51), .ref (wB w + h1)] σ (f_X5_tellsLikes n h1 σ) := by
  refine V_meth (by decide +kernel) (Nat.le_of_ble_eq_true rfl) (by intro v hv; simp only [List.mem_cons, List.not_mem_nil, or_false] at hv; rcases hv with rfl | rfl <;> rfl) (fun g x => ?_)
  show VV m_X5_tellsLikes w g 0 0 (QM m_X5_tellsLikes w g x) (fun b : Int32 × MS => b = x) 0 [some (.ref (wB w + 51)), some (.ref (wB w + h1)), none, none] [] σ (f_X5_tellsLikes n h1 σ)
  have hL35 : ∀ (v2 : Int32) (n0 : Nat) (a : Int32 × MS), VV m_X5_tellsLikes w g 0 0 (QM m_X5_tellsLikes w g x) (fun b : Int32 × MS => b = x) 35 [some (.ref (wB w + 51)), some (.ref (wB w + h1)), some (.int v2), some (.int a.1)] [] a.2 (itr (L_X5_tellsLikes_35 n h1 v2 σ) n0 a) := by
    intro v2
    refine V_itr (vf := fun a : Int32 × MS => [some (.ref (wB w + 51)), some (.ref (wB w + h1)), some (.int v2), some (.int a.1)]) (sf := fun a : Int32 × MS => a.2) (fun κ35 b35 r35 a35 => ?_)
    obtain ⟨a35_1, a35_2⟩ := a35
    show VV m_X5_tellsLikes w g 0 0 (QM m_X5_tellsLikes w g x) κ35 35 [some (.ref (wB w + 51)), some (.ref (wB w + h1)), some (.int v2), some (.int a35_1)] [] a35_2 (L_X5_tellsLikes_35 n h1 v2 σ (a35_1, a35_2))
    have hJ79 : ∀ (v3 : Int32) (σ : MS), VV m_X5_tellsLikes w g 0 0 (QM m_X5_tellsLikes w g x) κ35 79 [some (.ref (wB w + 51)), some (.ref (wB w + h1)), some (.int v2), some (.int v3)] [] σ (J_X5_tellsLikes_79 n h1 v2 v3 σ) := by
      intro v3 σ
      refine V_iincC (pc := 79) (vs' := [some (.ref (wB w + 51)), some (.ref (wB w + h1)), some (.int v2), some (.int (v3 + (1 : Int32)))]) dX5_tellsLikes_79 (Nat.le_of_ble_eq_true rfl) rfl ic_1 rfl ?_
      refine V_goto (pc := 82) (tgt := 35) dX5_tellsLikes_82 (by decide +kernel) ?_
      exact V_back (b35 ((v3 + (1 : Int32)), σ))
    refine V_iload_n (pc := 35) dX5_tellsLikes_35 rfl rfl ?_
    refine V_aload_n (pc := 36) dX5_tellsLikes_36 rfl rfl ?_
    refine V_geti (pc := 37) fk_X5_38 rfl dX5_tellsLikes_37 k_h1 (rf_4_0 _) ?_
    refine V_icmp_ge (pc := 40) (tgt := 85) dX5_tellsLikes_40 (by decide +kernel) ?_ ?_
    · refine V_exit r35 ?_
      refine V_aload_n (pc := 85) dX5_tellsLikes_85 rfl rfl ?_
      refine V_getr (pc := 86) (t := 1) fk_X5_9 rfl dX5_tellsLikes_86 kc_51 rf_5_0_51 ?_
      refine V_callVv (pc := 89) (As := []) (rest := []) (c_X9_advance w n  a35_2) cw_X5_44 rfl rfl dX5_tellsLikes_89 kc_1 ci_9 ⟨Nat.le_of_ble_eq_true rfl, Nat.le_of_ble_eq_true rfl⟩ rfl rfl (Nat.le_of_ble_eq_true rfl) (Nat.le_of_ble_eq_true rfl) (Nat.le_of_ble_eq_true rfl) rfl (fun q89 => ?_)
      refine V_iconst (pc := 92) dX5_tellsLikes_92 ic_1 ?_
      exact V_iretz (pc := 93) dX5_tellsLikes_93 rfl rfl (hk := fun h => h)
    · refine V_iload_n (pc := 43) dX5_tellsLikes_43 rfl rfl ?_
      refine V_iload_n (pc := 44) dX5_tellsLikes_44 rfl rfl ?_
      refine V_icmp_eq (pc := 45) (tgt := 79) dX5_tellsLikes_45 (by decide +kernel) ?_ ?_
      · exact hJ79 a35_1 a35_2
      · refine V_aload_n (pc := 48) dX5_tellsLikes_48 rfl rfl ?_
        refine V_getr (pc := 49) (t := (h1 + 5)) fk_X5_92 rfl dX5_tellsLikes_49 k_h1 (rf_4_12 _) ?_
        refine V_iload_n (pc := 52) dX5_tellsLikes_52 rfl rfl ?_
        refine V_bipush (pc := 53) dX5_tellsLikes_53 bp_8 ?_
        refine V_imul (pc := 55) dX5_tellsLikes_55 ?_
        refine V_iload_n (pc := 56) dX5_tellsLikes_56 rfl rfl ?_
        refine V_iadd (pc := 57) dX5_tellsLikes_57 ?_
        refine V_aload_n (pc := 58) dX5_tellsLikes_58 rfl rfl ?_
        refine V_getr (pc := 59) (t := 1) fk_X5_9 rfl dX5_tellsLikes_59 kc_51 rf_5_0_51 ?_
        refine V_getr (pc := 62) (t := 2) fk_X5_96 rfl dX5_tellsLikes_62 kc_1 rf_9_0_1 ?_
        refine V_aload_n (pc := 65) dX5_tellsLikes_65 rfl rfl ?_
        refine V_getr (pc := 66) (t := 1) fk_X5_9 rfl dX5_tellsLikes_66 kc_51 rf_5_0_51 ?_
        refine V_geti (pc := 69) fk_X5_99 rfl dX5_tellsLikes_69 kc_1 rf_9_2_1 ?_
        refine V_iload_n (pc := 72) dX5_tellsLikes_72 rfl rfl ?_
        refine V_iadd (pc := 73) dX5_tellsLikes_73 ?_
        refine V_iald (pc := 74) (n := 400) dX5_tellsLikes_74 kc_2 lc_2 ?_
        refine V_bipush (pc := 75) dX5_tellsLikes_75 bp_48 ?_
        refine V_isub (pc := 77) dX5_tellsLikes_77 ?_
        refine V_iast (pc := 78) (n := 64) dX5_tellsLikes_78 (hA5 k_h1).1 (hA5 k_h1).2 (fun s78 => ?_)
        exact hJ79 a35_1 s78
  have hJ31 : ∀ (σ : MS), VV m_X5_tellsLikes w g 0 0 (QM m_X5_tellsLikes w g x) (fun b : Int32 × MS => b = x) 31 [none, none, none, none] [] σ (J_X5_tellsLikes_31 n h1 σ) := by
    intro σ
    refine V_iconst (pc := 31) dX5_tellsLikes_31 ic_0 ?_
    exact V_iretz (pc := 32) dX5_tellsLikes_32 rfl rfl (hk := fun h => h)
  refine V_aload_n (pc := 0) dX5_tellsLikes_0 rfl rfl ?_
  refine V_iconst (pc := 1) dX5_tellsLikes_1 ic_0 ?_
  refine V_aload_n (pc := 2) dX5_tellsLikes_2 rfl rfl ?_
  refine V_geti (pc := 3) fk_X5_38 rfl dX5_tellsLikes_3 k_h1 (rf_4_0 _) ?_
  refine V_iconst (pc := 6) dX5_tellsLikes_6 ic_1 ?_
  refine V_isub (pc := 7) dX5_tellsLikes_7 ?_
  refine V_callVi (pc := 8) (As := [.int (0 : Int32), .int ((σ h1 0) - (1 : Int32))]) (rest := []) (c_X5_takeNumber w n (0 : Int32) ((σ h1 0) - (1 : Int32)) σ) cw_X5_59 rfl rfl dX5_tellsLikes_8 kc_51 ci_5 ⟨Nat.le_of_ble_eq_true rfl, Nat.le_of_ble_eq_true rfl⟩ rfl rfl (Nat.le_of_ble_eq_true rfl) (Nat.le_of_ble_eq_true rfl) (Nat.le_of_ble_eq_true rfl) rfl (fun q8 => ?_)
  refine V_istore_n (pc := 11) (vs' := [some (.ref (wB w + 51)), some (.ref (wB w + h1)), some (.int q8.1), none]) dX5_tellsLikes_11 rfl (Nat.le_of_ble_eq_true rfl) (Nat.le_of_ble_eq_true rfl) rfl ?_
  refine V_iload_n (pc := 12) dX5_tellsLikes_12 rfl rfl ?_
  refine V_iconst (pc := 13) dX5_tellsLikes_13 ic_m1 ?_
  refine V_icmp_eq (pc := 14) (tgt := 31) dX5_tellsLikes_14 (by decide +kernel) ?_ ?_
  · refine V_sub (vs' := [none, none, none, none]) (show vless _ _ from trivial) rfl ?_
    exact hJ31 q8.2
  · refine V_aload_n (pc := 17) dX5_tellsLikes_17 rfl rfl ?_
    refine V_getr (pc := 18) (t := 1) fk_X5_9 rfl dX5_tellsLikes_18 kc_51 rf_5_0_51 ?_
    refine V_aload_n (pc := 21) dX5_tellsLikes_21 rfl rfl ?_
    refine V_geti (pc := 22) fk_X5_38 rfl dX5_tellsLikes_22 k_h1 (rf_4_0 _) ?_
    refine V_callVpi (pc := 25) (As := [.int (q8.2 h1 0)]) (rest := []) (c_X9_isFigures w (q8.2 h1 0) q8.2) cw_X5_88 rfl rfl dX5_tellsLikes_25 kc_1 ci_9 ⟨Nat.le_of_ble_eq_true rfl, Nat.le_of_ble_eq_true rfl⟩ rfl rfl (Nat.le_of_ble_eq_true rfl) (Nat.le_of_ble_eq_true rfl) (Nat.le_of_ble_eq_true rfl) rfl (fun q25 => ?_)
    refine V_if_ne (pc := 28) (tgt := 33) dX5_tellsLikes_28 (by decide +kernel) ?_ ?_
    · refine V_iconst (pc := 33) dX5_tellsLikes_33 ic_0 ?_
      refine V_istore_n (pc := 34) (vs' := [some (.ref (wB w + 51)), some (.ref (wB w + h1)), some (.int q8.1), some (.int (0 : Int32))]) dX5_tellsLikes_34 rfl (Nat.le_of_ble_eq_true rfl) (Nat.le_of_ble_eq_true rfl) rfl ?_
      exact hL35 q8.1 n ((0 : Int32), q8.2)
    · refine V_sub (vs' := [none, none, none, none]) (show vless _ _ from trivial) rfl ?_
      exact hJ31 q8.2
def J_X5_takeSingle_35 (n : Nat) (h1 : Nat) (σ : MS) : Option (Int32 × MS) := some ((-1 : Int32), σ)
def f_X5_takeSingle (n : Nat) (h1 : Nat) (p2 : Int32) (σ : MS) : Option (Int32 × MS) := ((f_X9_number n (0 : Int32) ((σ h1 0) - (1 : Int32)) σ).bind (fun q11 => (if q11 = (-1 : Int32) then J_X5_takeSingle_35 n h1 σ else (if q11 = p2 then J_X5_takeSingle_35 n h1 σ else (if inb q11 8 then (if (σ (h1 + 2) (ix q11)) = (-1 : Int32) then ((f_X9_advance n  σ).bind (fun q41 => some (q11, q41.2))) else J_X5_takeSingle_35 n h1 σ) else none)))))
set_option maxRecDepth 20000 in
set_option maxHeartbeats 2000000 in
theorem c_X5_takeSingle (w : TG) (n : Nat) (h1 : Nat) (p2 : Int32) (k_h1 : kd h1 = 4) (σ : MS) : MC m_X5_takeSingle w [.ref (wB w + 51), .ref (wB w + h1), .int p2] σ (f_X5_takeSingle n h1 p2 σ) := by
  refine V_meth (by decide +kernel) (Nat.le_of_ble_eq_true rfl) (by intro v hv; simp only [List.mem_cons, List.not_mem_nil, or_false] at hv; rcases hv with rfl | rfl | rfl <;> rfl) (fun g x => ?_)
  show VV m_X5_takeSingle w g 0 0 (QM m_X5_takeSingle w g x) (fun b : Int32 × MS => b = x) 0 [some (.ref (wB w + 51)), some (.ref (wB w + h1)), some (.int p2), none] [] σ (f_X5_takeSingle n h1 p2 σ)
  have hJ35 : ∀ (σ : MS), VV m_X5_takeSingle w g 0 0 (QM m_X5_takeSingle w g x) (fun b : Int32 × MS => b = x) 35 [none, none, none, none] [] σ (J_X5_takeSingle_35 n h1 σ) := by
    intro σ
    refine V_iconst (pc := 35) dX5_takeSingle_35 ic_m1 ?_
    exact V_ireti (pc := 36) dX5_takeSingle_36 rfl (hk := fun h => h)
  refine V_aload_n (pc := 0) dX5_takeSingle_0 rfl rfl ?_
  refine V_getr (pc := 1) (t := 1) fk_X5_9 rfl dX5_takeSingle_1 kc_51 rf_5_0_51 ?_
  refine V_iconst (pc := 4) dX5_takeSingle_4 ic_0 ?_
  refine V_aload_n (pc := 5) dX5_takeSingle_5 rfl rfl ?_
  refine V_geti (pc := 6) fk_X5_38 rfl dX5_takeSingle_6 k_h1 (rf_4_0 _) ?_
  refine V_iconst (pc := 9) dX5_takeSingle_9 ic_1 ?_
  refine V_isub (pc := 10) dX5_takeSingle_10 ?_
  refine V_callVpi (pc := 11) (As := [.int (0 : Int32), .int ((σ h1 0) - (1 : Int32))]) (rest := []) (c_X9_number w n (0 : Int32) ((σ h1 0) - (1 : Int32)) σ) cw_X5_75 rfl rfl dX5_takeSingle_11 kc_1 ci_9 ⟨Nat.le_of_ble_eq_true rfl, Nat.le_of_ble_eq_true rfl⟩ rfl rfl (Nat.le_of_ble_eq_true rfl) (Nat.le_of_ble_eq_true rfl) (Nat.le_of_ble_eq_true rfl) rfl (fun q11 => ?_)
  refine V_istore_n (pc := 14) (vs' := [some (.ref (wB w + 51)), some (.ref (wB w + h1)), some (.int p2), some (.int q11)]) dX5_takeSingle_14 rfl (Nat.le_of_ble_eq_true rfl) (Nat.le_of_ble_eq_true rfl) rfl ?_
  refine V_iload_n (pc := 15) dX5_takeSingle_15 rfl rfl ?_
  refine V_iconst (pc := 16) dX5_takeSingle_16 ic_m1 ?_
  refine V_icmp_eq (pc := 17) (tgt := 35) dX5_takeSingle_17 (by decide +kernel) ?_ ?_
  · refine V_sub (vs' := [none, none, none, none]) (show vless _ _ from trivial) rfl ?_
    exact hJ35 σ
  · refine V_iload_n (pc := 20) dX5_takeSingle_20 rfl rfl ?_
    refine V_iload_n (pc := 21) dX5_takeSingle_21 rfl rfl ?_
    refine V_icmp_eq (pc := 22) (tgt := 35) dX5_takeSingle_22 (by decide +kernel) ?_ ?_
    · refine V_sub (vs' := [none, none, none, none]) (show vless _ _ from trivial) rfl ?_
      exact hJ35 σ
    · refine V_aload_n (pc := 25) dX5_takeSingle_25 rfl rfl ?_
      refine V_getr (pc := 26) (t := (h1 + 2)) fk_X5_110 rfl dX5_takeSingle_26 k_h1 (rf_4_9 _) ?_
      refine V_iload_n (pc := 29) dX5_takeSingle_29 rfl rfl ?_
      refine V_iald (pc := 30) (n := 8) dX5_takeSingle_30 (hA2 k_h1).1 (hA2 k_h1).2 ?_
      refine V_iconst (pc := 31) dX5_takeSingle_31 ic_m1 ?_
      refine V_icmp_eq (pc := 32) (tgt := 37) dX5_takeSingle_32 (by decide +kernel) ?_ ?_
      · refine V_aload_n (pc := 37) dX5_takeSingle_37 rfl rfl ?_
        refine V_getr (pc := 38) (t := 1) fk_X5_9 rfl dX5_takeSingle_38 kc_51 rf_5_0_51 ?_
        refine V_callVv (pc := 41) (As := []) (rest := []) (c_X9_advance w n  σ) cw_X5_44 rfl rfl dX5_takeSingle_41 kc_1 ci_9 ⟨Nat.le_of_ble_eq_true rfl, Nat.le_of_ble_eq_true rfl⟩ rfl rfl (Nat.le_of_ble_eq_true rfl) (Nat.le_of_ble_eq_true rfl) (Nat.le_of_ble_eq_true rfl) rfl (fun q41 => ?_)
        refine V_iload_n (pc := 44) dX5_takeSingle_44 rfl rfl ?_
        exact V_ireti (pc := 45) dX5_takeSingle_45 rfl (hk := fun h => h)
      · refine V_sub (vs' := [none, none, none, none]) (show vless _ _ from trivial) rfl ?_
        exact hJ35 σ
def f_X5_tellsWed (n : Nat) (h1 : Nat) (σ : MS) : Option (Int32 × MS) := ((f_X5_takeSingle n h1 (-1 : Int32) σ).bind (fun q3 => (if q3.1 = (-1 : Int32) then some ((0 : Int32), q3.2) else ((f_X5_takeSingle n h1 q3.1 q3.2).bind (fun q17 => (if q17.1 = (-1 : Int32) then some ((0 : Int32), q17.2) else ((f_X4_marry h1 q3.1 q17.1 q17.2).bind (fun q31 => some ((1 : Int32), q31.2)))))))))
set_option maxRecDepth 20000 in
set_option maxHeartbeats 2000000 in
theorem c_X5_tellsWed (w : TG) (n : Nat) (h1 : Nat) (k_h1 : kd h1 = 4) (σ : MS) : MC m_X5_tellsWed w [.ref (wB w + 51), .ref (wB w + h1)] σ (f_X5_tellsWed n h1 σ) := by
  refine V_meth (by decide +kernel) (Nat.le_of_ble_eq_true rfl) (by intro v hv; simp only [List.mem_cons, List.not_mem_nil, or_false] at hv; rcases hv with rfl | rfl <;> rfl) (fun g x => ?_)
  show VV m_X5_tellsWed w g 0 0 (QM m_X5_tellsWed w g x) (fun b : Int32 × MS => b = x) 0 [some (.ref (wB w + 51)), some (.ref (wB w + h1)), none, none] [] σ (f_X5_tellsWed n h1 σ)
  refine V_aload_n (pc := 0) dX5_tellsWed_0 rfl rfl ?_
  refine V_aload_n (pc := 1) dX5_tellsWed_1 rfl rfl ?_
  refine V_iconst (pc := 2) dX5_tellsWed_2 ic_m1 ?_
  refine V_callVi (pc := 3) (As := [.ref (wB w + h1), .int (-1 : Int32)]) (rest := []) (c_X5_takeSingle w n h1 (-1 : Int32) k_h1 σ) cw_X5_102 rfl rfl dX5_tellsWed_3 kc_51 ci_5 ⟨Nat.le_of_ble_eq_true rfl, Nat.le_of_ble_eq_true rfl⟩ rfl rfl (Nat.le_of_ble_eq_true rfl) (Nat.le_of_ble_eq_true rfl) (Nat.le_of_ble_eq_true rfl) rfl (fun q3 => ?_)
  refine V_istore_n (pc := 6) (vs' := [some (.ref (wB w + 51)), some (.ref (wB w + h1)), some (.int q3.1), none]) dX5_tellsWed_6 rfl (Nat.le_of_ble_eq_true rfl) (Nat.le_of_ble_eq_true rfl) rfl ?_
  refine V_iload_n (pc := 7) dX5_tellsWed_7 rfl rfl ?_
  refine V_iconst (pc := 8) dX5_tellsWed_8 ic_m1 ?_
  refine V_icmp_ne (pc := 9) (tgt := 14) dX5_tellsWed_9 (by decide +kernel) ?_ ?_
  · refine V_aload_n (pc := 14) dX5_tellsWed_14 rfl rfl ?_
    refine V_aload_n (pc := 15) dX5_tellsWed_15 rfl rfl ?_
    refine V_iload_n (pc := 16) dX5_tellsWed_16 rfl rfl ?_
    refine V_callVi (pc := 17) (As := [.ref (wB w + h1), .int q3.1]) (rest := []) (c_X5_takeSingle w n h1 q3.1 k_h1 q3.2) cw_X5_102 rfl rfl dX5_tellsWed_17 kc_51 ci_5 ⟨Nat.le_of_ble_eq_true rfl, Nat.le_of_ble_eq_true rfl⟩ rfl rfl (Nat.le_of_ble_eq_true rfl) (Nat.le_of_ble_eq_true rfl) (Nat.le_of_ble_eq_true rfl) rfl (fun q17 => ?_)
    refine V_istore_n (pc := 20) (vs' := [some (.ref (wB w + 51)), some (.ref (wB w + h1)), some (.int q3.1), some (.int q17.1)]) dX5_tellsWed_20 rfl (Nat.le_of_ble_eq_true rfl) (Nat.le_of_ble_eq_true rfl) rfl ?_
    refine V_iload_n (pc := 21) dX5_tellsWed_21 rfl rfl ?_
    refine V_iconst (pc := 22) dX5_tellsWed_22 ic_m1 ?_
    refine V_icmp_ne (pc := 23) (tgt := 28) dX5_tellsWed_23 (by decide +kernel) ?_ ?_
    · refine V_aload_n (pc := 28) dX5_tellsWed_28 rfl rfl ?_
      refine V_iload_n (pc := 29) dX5_tellsWed_29 rfl rfl ?_
      refine V_iload_n (pc := 30) dX5_tellsWed_30 rfl rfl ?_
      refine V_callVv (pc := 31) (As := [.int q3.1, .int q17.1]) (rest := []) (c_X4_marry w h1 q3.1 q17.1 k_h1 q17.2) cw_X5_106 rfl rfl dX5_tellsWed_31 k_h1 ci_4 ⟨Nat.le_of_ble_eq_true rfl, Nat.le_of_ble_eq_true rfl⟩ rfl rfl (Nat.le_of_ble_eq_true rfl) (Nat.le_of_ble_eq_true rfl) (Nat.le_of_ble_eq_true rfl) rfl (fun q31 => ?_)
      refine V_iconst (pc := 34) dX5_tellsWed_34 ic_1 ?_
      exact V_iretz (pc := 35) dX5_tellsWed_35 rfl rfl (hk := fun h => h)
    · refine V_iconst (pc := 26) dX5_tellsWed_26 ic_0 ?_
      exact V_iretz (pc := 27) dX5_tellsWed_27 rfl rfl (hk := fun h => h)
  · refine V_iconst (pc := 12) dX5_tellsWed_12 ic_0 ?_
    exact V_iretz (pc := 13) dX5_tellsWed_13 rfl rfl (hk := fun h => h)
def J_X5_tellsFlour_63 (n : Nat) (h1 : Nat) (σ : MS) : Option (Int32 × MS) := some ((0 : Int32), σ)
def L_X5_tellsFlour_22 (n : Nat) (h1 : Nat) (σ : MS) (a22 : Int32 × Int32) : Option ((Int32 × Int32) ⊕ (Int32 × MS)) := (if (σ 1 3) ≤ a22.2 then ((ltM (mu σ h1 2 a22.1) (fun s80 => ((f_X9_advance n  s80).bind (fun q87 => some ((1 : Int32), q87.2)))))).map Sum.inr else (if inb a22.2 400 then (if (6 : Int32) ≤ ((σ 2 (ix a22.2)) - (97 : Int32)) then (J_X5_tellsFlour_63 n h1 σ).map Sum.inr else (if (a22.1 &&& (shlI (1 : Int32) ((σ 2 (ix a22.2)) - (97 : Int32)))) = 0 then some (.inl ((a22.1 ||| (shlI (1 : Int32) ((σ 2 (ix a22.2)) - (97 : Int32)))), (a22.2 + (1 : Int32)))) else (J_X5_tellsFlour_63 n h1 σ).map Sum.inr)) else none))
def f_X5_tellsFlour (n : Nat) (h1 : Nat) (σ : MS) : Option (Int32 × MS) := ((f_X9_isWord  σ).bind (fun q4 => (if q4 = 0 then some ((0 : Int32), σ) else itr (L_X5_tellsFlour_22 n h1 σ) n ((0 : Int32), (σ 1 2)))))
set_option maxRecDepth 20000 in
set_option maxHeartbeats 2000000 in
theorem c_X5_tellsFlour (w : TG) (n : Nat) (h1 : Nat) (k_h1 : kd h1 = 4) (σ : MS) : MC m_X5_tellsFlour w [.ref (wB w + 51), .ref (wB w + h1)] σ (f_X5_tellsFlour n h1 σ) := by
  refine V_meth (by decide +kernel) (Nat.le_of_ble_eq_true rfl) (by intro v hv; simp only [List.mem_cons, List.not_mem_nil, or_false] at hv; rcases hv with rfl | rfl <;> rfl) (fun g x => ?_)
  show VV m_X5_tellsFlour w g 0 0 (QM m_X5_tellsFlour w g x) (fun b : Int32 × MS => b = x) 0 [some (.ref (wB w + 51)), some (.ref (wB w + h1)), none, none, none] [] σ (f_X5_tellsFlour n h1 σ)
  have hJ63 : ∀ (σ : MS), VV m_X5_tellsFlour w g 0 0 (QM m_X5_tellsFlour w g x) (fun b : Int32 × MS => b = x) 63 [none, none, none, none, none] [] σ (J_X5_tellsFlour_63 n h1 σ) := by
    intro σ
    refine V_iconst (pc := 63) dX5_tellsFlour_63 ic_0 ?_
    exact V_iretz (pc := 64) dX5_tellsFlour_64 rfl rfl (hk := fun h => h)
  have hL22 : ∀ (σ : MS) (n0 : Nat) (a : Int32 × Int32), VV m_X5_tellsFlour w g 0 0 (QM m_X5_tellsFlour w g x) (fun b : Int32 × MS => b = x) 22 [some (.ref (wB w + 51)), some (.ref (wB w + h1)), some (.int a.1), some (.int a.2), none] [] σ (itr (L_X5_tellsFlour_22 n h1 σ) n0 a) := by
    intro σ
    refine V_itr (vf := fun a : Int32 × Int32 => [some (.ref (wB w + 51)), some (.ref (wB w + h1)), some (.int a.1), some (.int a.2), none]) (sf := fun a : Int32 × Int32 => σ) (fun κ22 b22 r22 a22 => ?_)
    obtain ⟨a22_1, a22_2⟩ := a22
    show VV m_X5_tellsFlour w g 0 0 (QM m_X5_tellsFlour w g x) κ22 22 [some (.ref (wB w + 51)), some (.ref (wB w + h1)), some (.int a22_1), some (.int a22_2), none] [] σ (L_X5_tellsFlour_22 n h1 σ (a22_1, a22_2))
    refine V_iload_n (pc := 22) dX5_tellsFlour_22 rfl rfl ?_
    refine V_aload_n (pc := 23) dX5_tellsFlour_23 rfl rfl ?_
    refine V_getr (pc := 24) (t := 1) fk_X5_9 rfl dX5_tellsFlour_24 kc_51 rf_5_0_51 ?_
    refine V_geti (pc := 27) fk_X5_116 rfl dX5_tellsFlour_27 kc_1 rf_9_3_1 ?_
    refine V_icmp_ge (pc := 30) (tgt := 78) dX5_tellsFlour_30 (by decide +kernel) ?_ ?_
    · refine V_exit r22 ?_
      refine V_aload_n (pc := 78) dX5_tellsFlour_78 rfl rfl ?_
      refine V_iload_n (pc := 79) dX5_tellsFlour_79 rfl rfl ?_
      refine V_puti (pc := 80) fp_X5_119 rfl dX5_tellsFlour_80 k_h1 (rf_4_2 _) (fun s80 => ?_)
      refine V_aload_n (pc := 83) dX5_tellsFlour_83 rfl rfl ?_
      refine V_getr (pc := 84) (t := 1) fk_X5_9 rfl dX5_tellsFlour_84 kc_51 rf_5_0_51 ?_
      refine V_callVv (pc := 87) (As := []) (rest := []) (c_X9_advance w n  s80) cw_X5_44 rfl rfl dX5_tellsFlour_87 kc_1 ci_9 ⟨Nat.le_of_ble_eq_true rfl, Nat.le_of_ble_eq_true rfl⟩ rfl rfl (Nat.le_of_ble_eq_true rfl) (Nat.le_of_ble_eq_true rfl) (Nat.le_of_ble_eq_true rfl) rfl (fun q87 => ?_)
      refine V_iconst (pc := 90) dX5_tellsFlour_90 ic_1 ?_
      exact V_iretz (pc := 91) dX5_tellsFlour_91 rfl rfl (hk := fun h => h)
    · refine V_aload_n (pc := 33) dX5_tellsFlour_33 rfl rfl ?_
      refine V_getr (pc := 34) (t := 1) fk_X5_9 rfl dX5_tellsFlour_34 kc_51 rf_5_0_51 ?_
      refine V_getr (pc := 37) (t := 2) fk_X5_96 rfl dX5_tellsFlour_37 kc_1 rf_9_0_1 ?_
      refine V_iload_n (pc := 40) dX5_tellsFlour_40 rfl rfl ?_
      refine V_iald (pc := 41) (n := 400) dX5_tellsFlour_41 kc_2 lc_2 ?_
      refine V_bipush (pc := 42) dX5_tellsFlour_42 bp_97 ?_
      refine V_isub (pc := 44) dX5_tellsFlour_44 ?_
      refine V_istore (pc := 45) (vs' := [some (.ref (wB w + 51)), some (.ref (wB w + h1)), some (.int a22_1), some (.int a22_2), some (.int ((σ 2 (ix a22_2)) - (97 : Int32)))]) dX5_tellsFlour_45 (Nat.le_of_ble_eq_true rfl) (Nat.le_of_ble_eq_true rfl) rfl ?_
      refine V_iload (pc := 47) dX5_tellsFlour_47 rfl ?_
      refine V_bipush (pc := 49) dX5_tellsFlour_49 bp_6 ?_
      refine V_icmp_ge (pc := 51) (tgt := 63) dX5_tellsFlour_51 (by decide +kernel) ?_ ?_
      · refine V_exit r22 ?_
        refine V_sub (vs' := [none, none, none, none, none]) (show vless _ _ from trivial) rfl ?_
        exact hJ63 σ
      · refine V_iload_n (pc := 54) dX5_tellsFlour_54 rfl rfl ?_
        refine V_iconst (pc := 55) dX5_tellsFlour_55 ic_1 ?_
        refine V_iload (pc := 56) dX5_tellsFlour_56 rfl ?_
        refine V_ishl (pc := 58) dX5_tellsFlour_58 ?_
        refine V_iand (pc := 59) dX5_tellsFlour_59 ?_
        refine V_if_eq (pc := 60) (tgt := 65) dX5_tellsFlour_60 (by decide +kernel) ?_ ?_
        · refine V_iload_n (pc := 65) dX5_tellsFlour_65 rfl rfl ?_
          refine V_iconst (pc := 66) dX5_tellsFlour_66 ic_1 ?_
          refine V_iload (pc := 67) dX5_tellsFlour_67 rfl ?_
          refine V_ishl (pc := 69) dX5_tellsFlour_69 ?_
          refine V_ior (pc := 70) dX5_tellsFlour_70 ?_
          refine V_istore_n (pc := 71) (vs' := [some (.ref (wB w + 51)), some (.ref (wB w + h1)), some (.int (a22_1 ||| (shlI (1 : Int32) ((σ 2 (ix a22_2)) - (97 : Int32))))), some (.int a22_2), some (.int ((σ 2 (ix a22_2)) - (97 : Int32)))]) dX5_tellsFlour_71 rfl (Nat.le_of_ble_eq_true rfl) (Nat.le_of_ble_eq_true rfl) rfl ?_
          refine V_iincC (pc := 72) (vs' := [some (.ref (wB w + 51)), some (.ref (wB w + h1)), some (.int (a22_1 ||| (shlI (1 : Int32) ((σ 2 (ix a22_2)) - (97 : Int32))))), some (.int (a22_2 + (1 : Int32))), some (.int ((σ 2 (ix a22_2)) - (97 : Int32)))]) dX5_tellsFlour_72 (Nat.le_of_ble_eq_true rfl) rfl ic_1 rfl ?_
          refine V_goto (pc := 75) (tgt := 22) dX5_tellsFlour_75 (by decide +kernel) ?_
          refine V_sub (vs' := [some (.ref (wB w + 51)), some (.ref (wB w + h1)), some (.int (a22_1 ||| (shlI (1 : Int32) ((σ 2 (ix a22_2)) - (97 : Int32))))), some (.int (a22_2 + (1 : Int32))), none]) (show vless _ _ from ⟨rfl, ⟨rfl, ⟨rfl, ⟨rfl, trivial⟩⟩⟩⟩) rfl ?_
          exact V_back (b22 ((a22_1 ||| (shlI (1 : Int32) ((σ 2 (ix a22_2)) - (97 : Int32)))), (a22_2 + (1 : Int32))))
        · refine V_exit r22 ?_
          refine V_sub (vs' := [none, none, none, none, none]) (show vless _ _ from trivial) rfl ?_
          exact hJ63 σ
  refine V_aload_n (pc := 0) dX5_tellsFlour_0 rfl rfl ?_
  refine V_getr (pc := 1) (t := 1) fk_X5_9 rfl dX5_tellsFlour_1 kc_51 rf_5_0_51 ?_
  refine V_callVpi (pc := 4) (As := []) (rest := []) (c_X9_isWord w  σ) cw_X5_113 rfl rfl dX5_tellsFlour_4 kc_1 ci_9 ⟨Nat.le_of_ble_eq_true rfl, Nat.le_of_ble_eq_true rfl⟩ rfl rfl (Nat.le_of_ble_eq_true rfl) (Nat.le_of_ble_eq_true rfl) (Nat.le_of_ble_eq_true rfl) rfl (fun q4 => ?_)
  refine V_if_ne (pc := 7) (tgt := 12) dX5_tellsFlour_7 (by decide +kernel) ?_ ?_
  · refine V_iconst (pc := 12) dX5_tellsFlour_12 ic_0 ?_
    refine V_istore_n (pc := 13) (vs' := [some (.ref (wB w + 51)), some (.ref (wB w + h1)), some (.int (0 : Int32)), none, none]) dX5_tellsFlour_13 rfl (Nat.le_of_ble_eq_true rfl) (Nat.le_of_ble_eq_true rfl) rfl ?_
    refine V_aload_n (pc := 14) dX5_tellsFlour_14 rfl rfl ?_
    refine V_getr (pc := 15) (t := 1) fk_X5_9 rfl dX5_tellsFlour_15 kc_51 rf_5_0_51 ?_
    refine V_geti (pc := 18) fk_X5_99 rfl dX5_tellsFlour_18 kc_1 rf_9_2_1 ?_
    refine V_istore_n (pc := 21) (vs' := [some (.ref (wB w + 51)), some (.ref (wB w + h1)), some (.int (0 : Int32)), some (.int (σ 1 2)), none]) dX5_tellsFlour_21 rfl (Nat.le_of_ble_eq_true rfl) (Nat.le_of_ble_eq_true rfl) rfl ?_
    exact hL22 σ n ((0 : Int32), (σ 1 2))
  · refine V_iconst (pc := 10) dX5_tellsFlour_10 ic_0 ?_
    exact V_iretz (pc := 11) dX5_tellsFlour_11 rfl rfl (hk := fun h => h)
def J_X5_tellsBond_80 (n : Nat) (h1 : Nat) (σ : MS) : Option (Int32 × MS) := some ((0 : Int32), σ)
def J_X5_tellsBond_44 (n : Nat) (h1 : Nat) (σ : MS) : Option (Int32 × MS) := some ((0 : Int32), σ)
def f_X5_tellsBond (n : Nat) (h1 : Nat) (σ : MS) : Option (Int32 × MS) := ((f_X5_takeNumber n (0 : Int32) ((σ h1 0) - (1 : Int32)) σ).bind (fun q8 => (if q8.1 = (-1 : Int32) then some ((0 : Int32), q8.2) else ((f_X9_number n (0 : Int32) ((q8.2 h1 0) - (1 : Int32)) q8.2).bind (fun q30 => (if q30 = (-1 : Int32) then J_X5_tellsBond_44 n h1 q8.2 else (if q30 = q8.1 then J_X5_tellsBond_44 n h1 q8.2 else ((f_X9_advance n  q8.2).bind (fun q50 => ((f_X5_takeNumber n (1 : Int32) (9 : Int32) q50.2).bind (fun q57 => (if q57.1 = (-1 : Int32) then J_X5_tellsBond_80 n h1 q57.2 else ((f_X9_skipWord n 25 q57.2).bind (fun q74 => (if q74.1 = 0 then J_X5_tellsBond_80 n h1 q74.2 else ((f_X5_takeNumber n (1 : Int32) (999 : Int32) q74.2).bind (fun q87 => (if q87.1 = (-1 : Int32) then some ((0 : Int32), q87.2) else ((f_X4_tie h1 q8.1 q30 q57.1 q87.1 q87.2).bind (fun q107 => some ((1 : Int32), q107.2)))))))))))))))))))))
set_option maxRecDepth 20000 in
set_option maxHeartbeats 2000000 in
theorem c_X5_tellsBond (w : TG) (n : Nat) (h1 : Nat) (k_h1 : kd h1 = 4) (σ : MS) : MC m_X5_tellsBond w [.ref (wB w + 51), .ref (wB w + h1)] σ (f_X5_tellsBond n h1 σ) := by
  refine V_meth (by decide +kernel) (Nat.le_of_ble_eq_true rfl) (by intro v hv; simp only [List.mem_cons, List.not_mem_nil, or_false] at hv; rcases hv with rfl | rfl <;> rfl) (fun g x => ?_)
  show VV m_X5_tellsBond w g 0 0 (QM m_X5_tellsBond w g x) (fun b : Int32 × MS => b = x) 0 [some (.ref (wB w + 51)), some (.ref (wB w + h1)), none, none, none, none] [] σ (f_X5_tellsBond n h1 σ)
  have hJ80 : ∀ (σ : MS), VV m_X5_tellsBond w g 0 0 (QM m_X5_tellsBond w g x) (fun b : Int32 × MS => b = x) 80 [none, none, none, none, none, none] [] σ (J_X5_tellsBond_80 n h1 σ) := by
    intro σ
    refine V_iconst (pc := 80) dX5_tellsBond_80 ic_0 ?_
    exact V_iretz (pc := 81) dX5_tellsBond_81 rfl rfl (hk := fun h => h)
  have hJ44 : ∀ (σ : MS), VV m_X5_tellsBond w g 0 0 (QM m_X5_tellsBond w g x) (fun b : Int32 × MS => b = x) 44 [none, none, none, none, none, none] [] σ (J_X5_tellsBond_44 n h1 σ) := by
    intro σ
    refine V_iconst (pc := 44) dX5_tellsBond_44 ic_0 ?_
    exact V_iretz (pc := 45) dX5_tellsBond_45 rfl rfl (hk := fun h => h)
  refine V_aload_n (pc := 0) dX5_tellsBond_0 rfl rfl ?_
  refine V_iconst (pc := 1) dX5_tellsBond_1 ic_0 ?_
  refine V_aload_n (pc := 2) dX5_tellsBond_2 rfl rfl ?_
  refine V_geti (pc := 3) fk_X5_38 rfl dX5_tellsBond_3 k_h1 (rf_4_0 _) ?_
  refine V_iconst (pc := 6) dX5_tellsBond_6 ic_1 ?_
  refine V_isub (pc := 7) dX5_tellsBond_7 ?_
  refine V_callVi (pc := 8) (As := [.int (0 : Int32), .int ((σ h1 0) - (1 : Int32))]) (rest := []) (c_X5_takeNumber w n (0 : Int32) ((σ h1 0) - (1 : Int32)) σ) cw_X5_59 rfl rfl dX5_tellsBond_8 kc_51 ci_5 ⟨Nat.le_of_ble_eq_true rfl, Nat.le_of_ble_eq_true rfl⟩ rfl rfl (Nat.le_of_ble_eq_true rfl) (Nat.le_of_ble_eq_true rfl) (Nat.le_of_ble_eq_true rfl) rfl (fun q8 => ?_)
  refine V_istore_n (pc := 11) (vs' := [some (.ref (wB w + 51)), some (.ref (wB w + h1)), some (.int q8.1), none, none, none]) dX5_tellsBond_11 rfl (Nat.le_of_ble_eq_true rfl) (Nat.le_of_ble_eq_true rfl) rfl ?_
  refine V_iload_n (pc := 12) dX5_tellsBond_12 rfl rfl ?_
  refine V_iconst (pc := 13) dX5_tellsBond_13 ic_m1 ?_
  refine V_icmp_ne (pc := 14) (tgt := 19) dX5_tellsBond_14 (by decide +kernel) ?_ ?_
  · refine V_aload_n (pc := 19) dX5_tellsBond_19 rfl rfl ?_
    refine V_getr (pc := 20) (t := 1) fk_X5_9 rfl dX5_tellsBond_20 kc_51 rf_5_0_51 ?_
    refine V_iconst (pc := 23) dX5_tellsBond_23 ic_0 ?_
    refine V_aload_n (pc := 24) dX5_tellsBond_24 rfl rfl ?_
    refine V_geti (pc := 25) fk_X5_38 rfl dX5_tellsBond_25 k_h1 (rf_4_0 _) ?_
    refine V_iconst (pc := 28) dX5_tellsBond_28 ic_1 ?_
    refine V_isub (pc := 29) dX5_tellsBond_29 ?_
    refine V_callVpi (pc := 30) (As := [.int (0 : Int32), .int ((q8.2 h1 0) - (1 : Int32))]) (rest := []) (c_X9_number w n (0 : Int32) ((q8.2 h1 0) - (1 : Int32)) q8.2) cw_X5_75 rfl rfl dX5_tellsBond_30 kc_1 ci_9 ⟨Nat.le_of_ble_eq_true rfl, Nat.le_of_ble_eq_true rfl⟩ rfl rfl (Nat.le_of_ble_eq_true rfl) (Nat.le_of_ble_eq_true rfl) (Nat.le_of_ble_eq_true rfl) rfl (fun q30 => ?_)
    refine V_istore_n (pc := 33) (vs' := [some (.ref (wB w + 51)), some (.ref (wB w + h1)), some (.int q8.1), some (.int q30), none, none]) dX5_tellsBond_33 rfl (Nat.le_of_ble_eq_true rfl) (Nat.le_of_ble_eq_true rfl) rfl ?_
    refine V_iload_n (pc := 34) dX5_tellsBond_34 rfl rfl ?_
    refine V_iconst (pc := 35) dX5_tellsBond_35 ic_m1 ?_
    refine V_icmp_eq (pc := 36) (tgt := 44) dX5_tellsBond_36 (by decide +kernel) ?_ ?_
    · refine V_sub (vs' := [none, none, none, none, none, none]) (show vless _ _ from trivial) rfl ?_
      exact hJ44 q8.2
    · refine V_iload_n (pc := 39) dX5_tellsBond_39 rfl rfl ?_
      refine V_iload_n (pc := 40) dX5_tellsBond_40 rfl rfl ?_
      refine V_icmp_ne (pc := 41) (tgt := 46) dX5_tellsBond_41 (by decide +kernel) ?_ ?_
      · refine V_aload_n (pc := 46) dX5_tellsBond_46 rfl rfl ?_
        refine V_getr (pc := 47) (t := 1) fk_X5_9 rfl dX5_tellsBond_47 kc_51 rf_5_0_51 ?_
        refine V_callVv (pc := 50) (As := []) (rest := []) (c_X9_advance w n  q8.2) cw_X5_44 rfl rfl dX5_tellsBond_50 kc_1 ci_9 ⟨Nat.le_of_ble_eq_true rfl, Nat.le_of_ble_eq_true rfl⟩ rfl rfl (Nat.le_of_ble_eq_true rfl) (Nat.le_of_ble_eq_true rfl) (Nat.le_of_ble_eq_true rfl) rfl (fun q50 => ?_)
        refine V_aload_n (pc := 53) dX5_tellsBond_53 rfl rfl ?_
        refine V_iconst (pc := 54) dX5_tellsBond_54 ic_1 ?_
        refine V_bipush (pc := 55) dX5_tellsBond_55 bp_9 ?_
        refine V_callVi (pc := 57) (As := [.int (1 : Int32), .int (9 : Int32)]) (rest := []) (c_X5_takeNumber w n (1 : Int32) (9 : Int32) q50.2) cw_X5_59 rfl rfl dX5_tellsBond_57 kc_51 ci_5 ⟨Nat.le_of_ble_eq_true rfl, Nat.le_of_ble_eq_true rfl⟩ rfl rfl (Nat.le_of_ble_eq_true rfl) (Nat.le_of_ble_eq_true rfl) (Nat.le_of_ble_eq_true rfl) rfl (fun q57 => ?_)
        refine V_istore (pc := 60) (vs' := [some (.ref (wB w + 51)), some (.ref (wB w + h1)), some (.int q8.1), some (.int q30), some (.int q57.1), none]) dX5_tellsBond_60 (Nat.le_of_ble_eq_true rfl) (Nat.le_of_ble_eq_true rfl) rfl ?_
        refine V_iload (pc := 62) dX5_tellsBond_62 rfl ?_
        refine V_iconst (pc := 64) dX5_tellsBond_64 ic_m1 ?_
        refine V_icmp_eq (pc := 65) (tgt := 80) dX5_tellsBond_65 (by decide +kernel) ?_ ?_
        · refine V_sub (vs' := [none, none, none, none, none, none]) (show vless _ _ from trivial) rfl ?_
          exact hJ80 q57.2
        · refine V_aload_n (pc := 68) dX5_tellsBond_68 rfl rfl ?_
          refine V_getr (pc := 69) (t := 1) fk_X5_9 rfl dX5_tellsBond_69 kc_51 rf_5_0_51 ?_
          refine V_ldcS (pc := 72) (i := 25) (tx := "till") dX5_tellsBond_72 rfl (show (RX5, 122, "till", 25) ∈ strT from by decide +kernel) ?_
          refine V_callVi (pc := 74) (As := [.ref (wS w 25)]) (rest := []) (c_X9_skipWord w n 25 (by decide) q57.2) cw_X5_80 rfl rfl dX5_tellsBond_74 kc_1 ci_9 ⟨Nat.le_of_ble_eq_true rfl, Nat.le_of_ble_eq_true rfl⟩ rfl rfl (Nat.le_of_ble_eq_true rfl) (Nat.le_of_ble_eq_true rfl) (Nat.le_of_ble_eq_true rfl) rfl (fun q74 => ?_)
          refine V_if_ne (pc := 77) (tgt := 82) dX5_tellsBond_77 (by decide +kernel) ?_ ?_
          · refine V_aload_n (pc := 82) dX5_tellsBond_82 rfl rfl ?_
            refine V_iconst (pc := 83) dX5_tellsBond_83 ic_1 ?_
            refine V_sipush (pc := 84) dX5_tellsBond_84 sp_999 ?_
            refine V_callVi (pc := 87) (As := [.int (1 : Int32), .int (999 : Int32)]) (rest := []) (c_X5_takeNumber w n (1 : Int32) (999 : Int32) q74.2) cw_X5_59 rfl rfl dX5_tellsBond_87 kc_51 ci_5 ⟨Nat.le_of_ble_eq_true rfl, Nat.le_of_ble_eq_true rfl⟩ rfl rfl (Nat.le_of_ble_eq_true rfl) (Nat.le_of_ble_eq_true rfl) (Nat.le_of_ble_eq_true rfl) rfl (fun q87 => ?_)
            refine V_istore (pc := 90) (vs' := [some (.ref (wB w + 51)), some (.ref (wB w + h1)), some (.int q8.1), some (.int q30), some (.int q57.1), some (.int q87.1)]) dX5_tellsBond_90 (Nat.le_of_ble_eq_true rfl) (Nat.le_of_ble_eq_true rfl) rfl ?_
            refine V_iload (pc := 92) dX5_tellsBond_92 rfl ?_
            refine V_iconst (pc := 94) dX5_tellsBond_94 ic_m1 ?_
            refine V_icmp_ne (pc := 95) (tgt := 100) dX5_tellsBond_95 (by decide +kernel) ?_ ?_
            · refine V_aload_n (pc := 100) dX5_tellsBond_100 rfl rfl ?_
              refine V_iload_n (pc := 101) dX5_tellsBond_101 rfl rfl ?_
              refine V_iload_n (pc := 102) dX5_tellsBond_102 rfl rfl ?_
              refine V_iload (pc := 103) dX5_tellsBond_103 rfl ?_
              refine V_iload (pc := 105) dX5_tellsBond_105 rfl ?_
              refine V_callVv (pc := 107) (As := [.int q8.1, .int q30, .int q57.1, .int q87.1]) (rest := []) (c_X4_tie w h1 q8.1 q30 q57.1 q87.1 k_h1 q87.2) cw_X5_124 rfl rfl dX5_tellsBond_107 k_h1 ci_4 ⟨Nat.le_of_ble_eq_true rfl, Nat.le_of_ble_eq_true rfl⟩ rfl rfl (Nat.le_of_ble_eq_true rfl) (Nat.le_of_ble_eq_true rfl) (Nat.le_of_ble_eq_true rfl) rfl (fun q107 => ?_)
              refine V_iconst (pc := 110) dX5_tellsBond_110 ic_1 ?_
              exact V_iretz (pc := 111) dX5_tellsBond_111 rfl rfl (hk := fun h => h)
            · refine V_iconst (pc := 98) dX5_tellsBond_98 ic_0 ?_
              exact V_iretz (pc := 99) dX5_tellsBond_99 rfl rfl (hk := fun h => h)
          · refine V_sub (vs' := [none, none, none, none, none, none]) (show vless _ _ from trivial) rfl ?_
            exact hJ80 q74.2
      · refine V_sub (vs' := [none, none, none, none, none, none]) (show vless _ _ from trivial) rfl ?_
        exact hJ44 q8.2
  · refine V_iconst (pc := 17) dX5_tellsBond_17 ic_0 ?_
    exact V_iretz (pc := 18) dX5_tellsBond_18 rfl rfl (hk := fun h => h)
def J_X5_tellsLine_186 (n : Nat) (h1 : Nat) (t0 : Int32) (σ : MS) : Option (Int32 × MS) := (if t0 = 0 ∨ t0 = 1 then some (t0, σ) else none)
def J_X5_tellsLine_154 (n : Nat) (h1 : Nat) (t0 : Int32) (σ : MS) : Option (Int32 × MS) := (if t0 = 0 ∨ t0 = 1 then some (t0, σ) else none)
def J_X5_tellsLine_128 (n : Nat) (h1 : Nat) (t0 : Int32) (σ : MS) : Option (Int32 × MS) := (if t0 = 0 ∨ t0 = 1 then some (t0, σ) else none)
def J_X5_tellsLine_30 (n : Nat) (h1 : Nat) (v2 : Int32) (σ : MS) : Option (Int32 × MS) := ((f_X9_advance n  σ).bind (fun q34 => (if v2 = (0 : Int32) then ((f_X5_tellsPerson n h1 q34.2).bind (fun q82 => (if q82.1 = 0 ∨ q82.1 = 1 then some (q82.1, q82.2) else none))) else (if v2 = (1 : Int32) then ((f_X5_tellsLikes n h1 q34.2).bind (fun q88 => (if q88.1 = 0 ∨ q88.1 = 1 then some (q88.1, q88.2) else none))) else (if v2 = (2 : Int32) then ((f_X5_tellsWed n h1 q34.2).bind (fun q94 => (if q94.1 = 0 ∨ q94.1 = 1 then some (q94.1, q94.2) else none))) else (if v2 = (3 : Int32) then ((f_X5_tellsFlour n h1 q34.2).bind (fun q100 => (if q100.1 = 0 ∨ q100.1 = 1 then some (q100.1, q100.2) else none))) else (if v2 = (4 : Int32) then ((f_X5_takeNumber n (1 : Int32) (9 : Int32) q34.2).bind (fun q109 => (ltM (mu q109.2 h1 3 q109.1) (fun s112 => (if (s112 h1 3) = (-1 : Int32) then J_X5_tellsLine_128 n h1 (0 : Int32) s112 else J_X5_tellsLine_128 n h1 (1 : Int32) s112))))) else (if v2 = (5 : Int32) then ((f_X5_takeNumber n (1 : Int32) (400 : Int32) q34.2).bind (fun q135 => (ltM (mu q135.2 h1 4 q135.1) (fun s138 => (if (s138 h1 4) = (-1 : Int32) then J_X5_tellsLine_154 n h1 (0 : Int32) s138 else J_X5_tellsLine_154 n h1 (1 : Int32) s138))))) else (if v2 = (6 : Int32) then ((f_X5_tellsBond n h1 q34.2).bind (fun q157 => (if q157.1 = 0 ∨ q157.1 = 1 then some (q157.1, q157.2) else none))) else ((f_X5_takeNumber n (0 : Int32) (999 : Int32) q34.2).bind (fun q167 => (ltM (mu q167.2 h1 5 q167.1) (fun s170 => (if (s170 h1 5) = (-1 : Int32) then J_X5_tellsLine_186 n h1 (0 : Int32) s170 else J_X5_tellsLine_186 n h1 (1 : Int32) s170))))))))))))))
def J_X5_tellsLine_28 (n : Nat) (h1 : Nat) (σ : MS) : Option (Int32 × MS) := some ((0 : Int32), σ)
def f_X5_tellsLine (n : Nat) (h1 : Nat) (σ : MS) : Option (Int32 × MS) := ((f_X9_wordAmong n 23 σ).bind (fun q6 => (if q6 = (-1 : Int32) then J_X5_tellsLine_28 n h1 σ else (if q6 = 0 then (if (σ h1 0) < (8 : Int32) then J_X5_tellsLine_30 n h1 q6 σ else J_X5_tellsLine_28 n h1 σ) else J_X5_tellsLine_30 n h1 q6 σ))))
set_option maxRecDepth 20000 in
set_option maxHeartbeats 2000000 in
theorem c_X5_tellsLine (w : TG) (n : Nat) (h1 : Nat) (k_h1 : kd h1 = 4) (σ : MS) : MC m_X5_tellsLine w [.ref (wB w + 51), .ref (wB w + h1)] σ (f_X5_tellsLine n h1 σ) := by
  refine V_meth (by decide +kernel) (Nat.le_of_ble_eq_true rfl) (by intro v hv; simp only [List.mem_cons, List.not_mem_nil, or_false] at hv; rcases hv with rfl | rfl <;> rfl) (fun g x => ?_)
  show VV m_X5_tellsLine w g 0 0 (QM m_X5_tellsLine w g x) (fun b : Int32 × MS => b = x) 0 [some (.ref (wB w + 51)), some (.ref (wB w + h1)), none] [] σ (f_X5_tellsLine n h1 σ)
  have hJ186 : ∀ (t0 : Int32) (σ : MS), VV m_X5_tellsLine w g 0 0 (QM m_X5_tellsLine w g x) (fun b : Int32 × MS => b = x) 186 [none, none, none] [.int t0] σ (J_X5_tellsLine_186 n h1 t0 σ) := by
    intro t0 σ
    exact V_iretZ (pc := 186) dX5_tellsLine_186 rfl (hk := fun h => h)
  have hJ154 : ∀ (t0 : Int32) (σ : MS), VV m_X5_tellsLine w g 0 0 (QM m_X5_tellsLine w g x) (fun b : Int32 × MS => b = x) 154 [none, none, none] [.int t0] σ (J_X5_tellsLine_154 n h1 t0 σ) := by
    intro t0 σ
    exact V_iretZ (pc := 154) dX5_tellsLine_154 rfl (hk := fun h => h)
  have hJ128 : ∀ (t0 : Int32) (σ : MS), VV m_X5_tellsLine w g 0 0 (QM m_X5_tellsLine w g x) (fun b : Int32 × MS => b = x) 128 [none, none, none] [.int t0] σ (J_X5_tellsLine_128 n h1 t0 σ) := by
    intro t0 σ
    exact V_iretZ (pc := 128) dX5_tellsLine_128 rfl (hk := fun h => h)
  have hJ30 : ∀ (v2 : Int32) (σ : MS), VV m_X5_tellsLine w g 0 0 (QM m_X5_tellsLine w g x) (fun b : Int32 × MS => b = x) 30 [some (.ref (wB w + 51)), some (.ref (wB w + h1)), some (.int v2)] [] σ (J_X5_tellsLine_30 n h1 v2 σ) := by
    intro v2 σ
    refine V_aload_n (pc := 30) dX5_tellsLine_30 rfl rfl ?_
    refine V_getr (pc := 31) (t := 1) fk_X5_9 rfl dX5_tellsLine_31 kc_51 rf_5_0_51 ?_
    refine V_callVv (pc := 34) (As := []) (rest := []) (c_X9_advance w n  σ) cw_X5_44 rfl rfl dX5_tellsLine_34 kc_1 ci_9 ⟨Nat.le_of_ble_eq_true rfl, Nat.le_of_ble_eq_true rfl⟩ rfl rfl (Nat.le_of_ble_eq_true rfl) (Nat.le_of_ble_eq_true rfl) (Nat.le_of_ble_eq_true rfl) rfl (fun q34 => ?_)
    refine V_iload_n (pc := 37) dX5_tellsLine_37 rfl rfl ?_
    refine V_ite (c := v2 = (0 : Int32)) (fun hx => ?_) (fun hx0 => ?_)
    · refine V_tabIn (pc := 38) (x := v2) (tgt := 80) dX5_tellsLine_38 (by rw [hx]; decide) (by rw [hx]; decide) (by rw [hx]; rfl) (by decide) ?_
      refine V_aload_n (pc := 80) dX5_tellsLine_80 rfl rfl ?_
      refine V_aload_n (pc := 81) dX5_tellsLine_81 rfl rfl ?_
      refine V_callVi (pc := 82) (As := [.ref (wB w + h1)]) (rest := []) (c_X5_tellsPerson w n h1 k_h1 q34.2) cw_X5_47 rfl rfl dX5_tellsLine_82 kc_51 ci_5 ⟨Nat.le_of_ble_eq_true rfl, Nat.le_of_ble_eq_true rfl⟩ rfl rfl (Nat.le_of_ble_eq_true rfl) (Nat.le_of_ble_eq_true rfl) (Nat.le_of_ble_eq_true rfl) rfl (fun q82 => ?_)
      exact V_iretZ (pc := 85) dX5_tellsLine_85 rfl (hk := fun h => h)
    refine V_ite (c := v2 = (1 : Int32)) (fun hx => ?_) (fun hx1 => ?_)
    · refine V_tabIn (pc := 38) (x := v2) (tgt := 86) dX5_tellsLine_38 (by rw [hx]; decide) (by rw [hx]; decide) (by rw [hx]; rfl) (by decide) ?_
      refine V_aload_n (pc := 86) dX5_tellsLine_86 rfl rfl ?_
      refine V_aload_n (pc := 87) dX5_tellsLine_87 rfl rfl ?_
      refine V_callVi (pc := 88) (As := [.ref (wB w + h1)]) (rest := []) (c_X5_tellsLikes w n h1 k_h1 q34.2) cw_X5_50 rfl rfl dX5_tellsLine_88 kc_51 ci_5 ⟨Nat.le_of_ble_eq_true rfl, Nat.le_of_ble_eq_true rfl⟩ rfl rfl (Nat.le_of_ble_eq_true rfl) (Nat.le_of_ble_eq_true rfl) (Nat.le_of_ble_eq_true rfl) rfl (fun q88 => ?_)
      exact V_iretZ (pc := 91) dX5_tellsLine_91 rfl (hk := fun h => h)
    refine V_ite (c := v2 = (2 : Int32)) (fun hx => ?_) (fun hx2 => ?_)
    · refine V_tabIn (pc := 38) (x := v2) (tgt := 92) dX5_tellsLine_38 (by rw [hx]; decide) (by rw [hx]; decide) (by rw [hx]; rfl) (by decide) ?_
      refine V_aload_n (pc := 92) dX5_tellsLine_92 rfl rfl ?_
      refine V_aload_n (pc := 93) dX5_tellsLine_93 rfl rfl ?_
      refine V_callVi (pc := 94) (As := [.ref (wB w + h1)]) (rest := []) (c_X5_tellsWed w n h1 k_h1 q34.2) cw_X5_53 rfl rfl dX5_tellsLine_94 kc_51 ci_5 ⟨Nat.le_of_ble_eq_true rfl, Nat.le_of_ble_eq_true rfl⟩ rfl rfl (Nat.le_of_ble_eq_true rfl) (Nat.le_of_ble_eq_true rfl) (Nat.le_of_ble_eq_true rfl) rfl (fun q94 => ?_)
      exact V_iretZ (pc := 97) dX5_tellsLine_97 rfl (hk := fun h => h)
    refine V_ite (c := v2 = (3 : Int32)) (fun hx => ?_) (fun hx3 => ?_)
    · refine V_tabIn (pc := 38) (x := v2) (tgt := 98) dX5_tellsLine_38 (by rw [hx]; decide) (by rw [hx]; decide) (by rw [hx]; rfl) (by decide) ?_
      refine V_aload_n (pc := 98) dX5_tellsLine_98 rfl rfl ?_
      refine V_aload_n (pc := 99) dX5_tellsLine_99 rfl rfl ?_
      refine V_callVi (pc := 100) (As := [.ref (wB w + h1)]) (rest := []) (c_X5_tellsFlour w n h1 k_h1 q34.2) cw_X5_56 rfl rfl dX5_tellsLine_100 kc_51 ci_5 ⟨Nat.le_of_ble_eq_true rfl, Nat.le_of_ble_eq_true rfl⟩ rfl rfl (Nat.le_of_ble_eq_true rfl) (Nat.le_of_ble_eq_true rfl) (Nat.le_of_ble_eq_true rfl) rfl (fun q100 => ?_)
      exact V_iretZ (pc := 103) dX5_tellsLine_103 rfl (hk := fun h => h)
    refine V_ite (c := v2 = (4 : Int32)) (fun hx => ?_) (fun hx4 => ?_)
    · refine V_tabIn (pc := 38) (x := v2) (tgt := 104) dX5_tellsLine_38 (by rw [hx]; decide) (by rw [hx]; decide) (by rw [hx]; rfl) (by decide) ?_
      refine V_aload_n (pc := 104) dX5_tellsLine_104 rfl rfl ?_
      refine V_aload_n (pc := 105) dX5_tellsLine_105 rfl rfl ?_
      refine V_iconst (pc := 106) dX5_tellsLine_106 ic_1 ?_
      refine V_bipush (pc := 107) dX5_tellsLine_107 bp_9 ?_
      refine V_callVi (pc := 109) (As := [.int (1 : Int32), .int (9 : Int32)]) (rest := [.ref (wB w + h1)]) (c_X5_takeNumber w n (1 : Int32) (9 : Int32) q34.2) cw_X5_59 rfl rfl dX5_tellsLine_109 kc_51 ci_5 ⟨Nat.le_of_ble_eq_true rfl, Nat.le_of_ble_eq_true rfl⟩ rfl rfl (Nat.le_of_ble_eq_true rfl) (Nat.le_of_ble_eq_true rfl) (Nat.le_of_ble_eq_true rfl) rfl (fun q109 => ?_)
      refine V_puti (pc := 112) fp_X5_63 rfl dX5_tellsLine_112 k_h1 (rf_4_3 _) (fun s112 => ?_)
      refine V_aload_n (pc := 115) dX5_tellsLine_115 rfl rfl ?_
      refine V_geti (pc := 116) fk_X5_63 rfl dX5_tellsLine_116 k_h1 (rf_4_3 _) ?_
      refine V_iconst (pc := 119) dX5_tellsLine_119 ic_m1 ?_
      refine V_icmp_eq (pc := 120) (tgt := 127) dX5_tellsLine_120 (by decide +kernel) ?_ ?_
      · refine V_iconst (pc := 127) dX5_tellsLine_127 ic_0 ?_
        refine V_sub (vs' := [none, none, none]) (show vless _ _ from trivial) rfl ?_
        exact hJ128 (0 : Int32) s112
      · refine V_iconst (pc := 123) dX5_tellsLine_123 ic_1 ?_
        refine V_goto (pc := 124) (tgt := 128) dX5_tellsLine_124 (by decide +kernel) ?_
        refine V_sub (vs' := [none, none, none]) (show vless _ _ from trivial) rfl ?_
        exact hJ128 (1 : Int32) s112
    refine V_ite (c := v2 = (5 : Int32)) (fun hx => ?_) (fun hx5 => ?_)
    · refine V_tabIn (pc := 38) (x := v2) (tgt := 129) dX5_tellsLine_38 (by rw [hx]; decide) (by rw [hx]; decide) (by rw [hx]; rfl) (by decide) ?_
      refine V_aload_n (pc := 129) dX5_tellsLine_129 rfl rfl ?_
      refine V_aload_n (pc := 130) dX5_tellsLine_130 rfl rfl ?_
      refine V_iconst (pc := 131) dX5_tellsLine_131 ic_1 ?_
      refine V_sipush (pc := 132) dX5_tellsLine_132 sp_400 ?_
      refine V_callVi (pc := 135) (As := [.int (1 : Int32), .int (400 : Int32)]) (rest := [.ref (wB w + h1)]) (c_X5_takeNumber w n (1 : Int32) (400 : Int32) q34.2) cw_X5_59 rfl rfl dX5_tellsLine_135 kc_51 ci_5 ⟨Nat.le_of_ble_eq_true rfl, Nat.le_of_ble_eq_true rfl⟩ rfl rfl (Nat.le_of_ble_eq_true rfl) (Nat.le_of_ble_eq_true rfl) (Nat.le_of_ble_eq_true rfl) rfl (fun q135 => ?_)
      refine V_puti (pc := 138) fp_X5_66 rfl dX5_tellsLine_138 k_h1 (rf_4_4 _) (fun s138 => ?_)
      refine V_aload_n (pc := 141) dX5_tellsLine_141 rfl rfl ?_
      refine V_geti (pc := 142) fk_X5_66 rfl dX5_tellsLine_142 k_h1 (rf_4_4 _) ?_
      refine V_iconst (pc := 145) dX5_tellsLine_145 ic_m1 ?_
      refine V_icmp_eq (pc := 146) (tgt := 153) dX5_tellsLine_146 (by decide +kernel) ?_ ?_
      · refine V_iconst (pc := 153) dX5_tellsLine_153 ic_0 ?_
        refine V_sub (vs' := [none, none, none]) (show vless _ _ from trivial) rfl ?_
        exact hJ154 (0 : Int32) s138
      · refine V_iconst (pc := 149) dX5_tellsLine_149 ic_1 ?_
        refine V_goto (pc := 150) (tgt := 154) dX5_tellsLine_150 (by decide +kernel) ?_
        refine V_sub (vs' := [none, none, none]) (show vless _ _ from trivial) rfl ?_
        exact hJ154 (1 : Int32) s138
    refine V_ite (c := v2 = (6 : Int32)) (fun hx => ?_) (fun hx6 => ?_)
    · refine V_tabIn (pc := 38) (x := v2) (tgt := 155) dX5_tellsLine_38 (by rw [hx]; decide) (by rw [hx]; decide) (by rw [hx]; rfl) (by decide) ?_
      refine V_aload_n (pc := 155) dX5_tellsLine_155 rfl rfl ?_
      refine V_aload_n (pc := 156) dX5_tellsLine_156 rfl rfl ?_
      refine V_callVi (pc := 157) (As := [.ref (wB w + h1)]) (rest := []) (c_X5_tellsBond w n h1 k_h1 q34.2) cw_X5_69 rfl rfl dX5_tellsLine_157 kc_51 ci_5 ⟨Nat.le_of_ble_eq_true rfl, Nat.le_of_ble_eq_true rfl⟩ rfl rfl (Nat.le_of_ble_eq_true rfl) (Nat.le_of_ble_eq_true rfl) (Nat.le_of_ble_eq_true rfl) rfl (fun q157 => ?_)
      exact V_iretZ (pc := 160) dX5_tellsLine_160 rfl (hk := fun h => h)
    refine V_tabOut (pc := 38) (tgt := 161) dX5_tellsLine_38 (tabout v2 0 6 (by decide) (by decide) (fun k h1 h2 => ?_)) (by decide) ?_
    · rcases (show k = 0 ∨ k = 1 ∨ k = 2 ∨ k = 3 ∨ k = 4 ∨ k = 5 ∨ k = 6 by omega) with rfl | rfl | rfl | rfl | rfl | rfl | rfl
      · exact hx0
      · exact hx1
      · exact hx2
      · exact hx3
      · exact hx4
      · exact hx5
      · exact hx6
    · refine V_aload_n (pc := 161) dX5_tellsLine_161 rfl rfl ?_
      refine V_aload_n (pc := 162) dX5_tellsLine_162 rfl rfl ?_
      refine V_iconst (pc := 163) dX5_tellsLine_163 ic_0 ?_
      refine V_sipush (pc := 164) dX5_tellsLine_164 sp_999 ?_
      refine V_callVi (pc := 167) (As := [.int (0 : Int32), .int (999 : Int32)]) (rest := [.ref (wB w + h1)]) (c_X5_takeNumber w n (0 : Int32) (999 : Int32) q34.2) cw_X5_59 rfl rfl dX5_tellsLine_167 kc_51 ci_5 ⟨Nat.le_of_ble_eq_true rfl, Nat.le_of_ble_eq_true rfl⟩ rfl rfl (Nat.le_of_ble_eq_true rfl) (Nat.le_of_ble_eq_true rfl) (Nat.le_of_ble_eq_true rfl) rfl (fun q167 => ?_)
      refine V_puti (pc := 170) fp_X5_72 rfl dX5_tellsLine_170 k_h1 (rf_4_5 _) (fun s170 => ?_)
      refine V_aload_n (pc := 173) dX5_tellsLine_173 rfl rfl ?_
      refine V_geti (pc := 174) fk_X5_72 rfl dX5_tellsLine_174 k_h1 (rf_4_5 _) ?_
      refine V_iconst (pc := 177) dX5_tellsLine_177 ic_m1 ?_
      refine V_icmp_eq (pc := 178) (tgt := 185) dX5_tellsLine_178 (by decide +kernel) ?_ ?_
      · refine V_iconst (pc := 185) dX5_tellsLine_185 ic_0 ?_
        refine V_sub (vs' := [none, none, none]) (show vless _ _ from trivial) rfl ?_
        exact hJ186 (0 : Int32) s170
      · refine V_iconst (pc := 181) dX5_tellsLine_181 ic_1 ?_
        refine V_goto (pc := 182) (tgt := 186) dX5_tellsLine_182 (by decide +kernel) ?_
        refine V_sub (vs' := [none, none, none]) (show vless _ _ from trivial) rfl ?_
        exact hJ186 (1 : Int32) s170
  have hJ28 : ∀ (σ : MS), VV m_X5_tellsLine w g 0 0 (QM m_X5_tellsLine w g x) (fun b : Int32 × MS => b = x) 28 [none, none, none] [] σ (J_X5_tellsLine_28 n h1 σ) := by
    intro σ
    refine V_iconst (pc := 28) dX5_tellsLine_28 ic_0 ?_
    exact V_iretz (pc := 29) dX5_tellsLine_29 rfl rfl (hk := fun h => h)
  refine V_aload_n (pc := 0) dX5_tellsLine_0 rfl rfl ?_
  refine V_getr (pc := 1) (t := 1) fk_X5_9 rfl dX5_tellsLine_1 kc_51 rf_5_0_51 ?_
  refine V_ldcS (pc := 4) (i := 23) (tx := "person likes wed flour binds lasts bond day") dX5_tellsLine_4 rfl (show (RX5, 32, "person likes wed flour binds lasts bond day", 23) ∈ strT from by decide +kernel) ?_
  refine V_callVpi (pc := 6) (As := [.ref (wS w 23)]) (rest := []) (c_X9_wordAmong w n 23 (by decide) σ) cw_X5_34 rfl rfl dX5_tellsLine_6 kc_1 ci_9 ⟨Nat.le_of_ble_eq_true rfl, Nat.le_of_ble_eq_true rfl⟩ rfl rfl (Nat.le_of_ble_eq_true rfl) (Nat.le_of_ble_eq_true rfl) (Nat.le_of_ble_eq_true rfl) rfl (fun q6 => ?_)
  refine V_istore_n (pc := 9) (vs' := [some (.ref (wB w + 51)), some (.ref (wB w + h1)), some (.int q6)]) dX5_tellsLine_9 rfl (Nat.le_of_ble_eq_true rfl) (Nat.le_of_ble_eq_true rfl) rfl ?_
  refine V_iload_n (pc := 10) dX5_tellsLine_10 rfl rfl ?_
  refine V_iconst (pc := 11) dX5_tellsLine_11 ic_m1 ?_
  refine V_icmp_eq (pc := 12) (tgt := 28) dX5_tellsLine_12 (by decide +kernel) ?_ ?_
  · refine V_sub (vs' := [none, none, none]) (show vless _ _ from trivial) rfl ?_
    exact hJ28 σ
  · refine V_iload_n (pc := 15) dX5_tellsLine_15 rfl rfl ?_
    refine V_if_ne (pc := 16) (tgt := 30) dX5_tellsLine_16 (by decide +kernel) ?_ ?_
    · exact hJ30 q6 σ
    · refine V_aload_n (pc := 19) dX5_tellsLine_19 rfl rfl ?_
      refine V_geti (pc := 20) fk_X5_38 rfl dX5_tellsLine_20 k_h1 (rf_4_0 _) ?_
      refine V_bipush (pc := 23) dX5_tellsLine_23 bp_8 ?_
      refine V_icmp_lt (pc := 25) (tgt := 30) dX5_tellsLine_25 (by decide +kernel) ?_ ?_
      · exact hJ30 q6 σ
      · refine V_sub (vs' := [none, none, none]) (show vless _ _ from trivial) rfl ?_
        exact hJ28 σ
def L_X5_tells_21 (n : Nat) (h1 : Nat) (σ : MS) (a21 : Int32 × MS) : Option ((Int32 × MS) ⊕ (Int32 × MS)) := (if (14 : Int32) ≤ a21.1 then (some ((0 : Int32), a21.2)).map Sum.inr else ((f_X5_tellsLine n h1 a21.2).bind (fun q29 => (if q29.1 = 0 then (some ((0 : Int32), q29.2)).map Sum.inr else ((f_X9_isOver  q29.2).bind (fun q41 => (if q41 = 0 then ((f_X9_skipSign n (59 : Int32) q29.2).bind (fun q55 => (if q55.1 = 0 then (some ((0 : Int32), q55.2)).map Sum.inr else some (.inl ((a21.1 + (1 : Int32)), q55.2))))) else (some ((1 : Int32), q29.2)).map Sum.inr)))))))
def f_X5_tells (n : Nat) (h1 : Nat) (σ : MS) : Option (Int32 × MS) := ((f_X9_begin n  σ).bind (fun q4 => ((f_X9_isOver  q4.2).bind (fun q11 => (if q11 = 0 then itr (L_X5_tells_21 n h1 σ) n ((0 : Int32), q4.2) else some ((1 : Int32), q4.2))))))
set_option maxRecDepth 20000 in
set_option maxHeartbeats 2000000 in
theorem c_X5_tells (w : TG) (n : Nat) (h1 : Nat) (k_h1 : kd h1 = 4) (σ : MS) : MC m_X5_tells w [.ref (wB w + 51), .ref (wB w + h1)] σ (f_X5_tells n h1 σ) := by
  refine V_meth (by decide +kernel) (Nat.le_of_ble_eq_true rfl) (by intro v hv; simp only [List.mem_cons, List.not_mem_nil, or_false] at hv; rcases hv with rfl | rfl <;> rfl) (fun g x => ?_)
  show VV m_X5_tells w g 0 0 (QM m_X5_tells w g x) (fun b : Int32 × MS => b = x) 0 [some (.ref (wB w + 51)), some (.ref (wB w + h1)), none] [] σ (f_X5_tells n h1 σ)
  have hL21 : ∀  (n0 : Nat) (a : Int32 × MS), VV m_X5_tells w g 0 0 (QM m_X5_tells w g x) (fun b : Int32 × MS => b = x) 21 [some (.ref (wB w + 51)), some (.ref (wB w + h1)), some (.int a.1)] [] a.2 (itr (L_X5_tells_21 n h1 σ) n0 a) := by
    refine V_itr (vf := fun a : Int32 × MS => [some (.ref (wB w + 51)), some (.ref (wB w + h1)), some (.int a.1)]) (sf := fun a : Int32 × MS => a.2) (fun κ21 b21 r21 a21 => ?_)
    obtain ⟨a21_1, a21_2⟩ := a21
    show VV m_X5_tells w g 0 0 (QM m_X5_tells w g x) κ21 21 [some (.ref (wB w + 51)), some (.ref (wB w + h1)), some (.int a21_1)] [] a21_2 (L_X5_tells_21 n h1 σ (a21_1, a21_2))
    refine V_iload_n (pc := 21) dX5_tells_21 rfl rfl ?_
    refine V_bipush (pc := 22) dX5_tells_22 bp_14 ?_
    refine V_icmp_ge (pc := 24) (tgt := 69) dX5_tells_24 (by decide +kernel) ?_ ?_
    · refine V_exit r21 ?_
      refine V_iconst (pc := 69) dX5_tells_69 ic_0 ?_
      exact V_iretz (pc := 70) dX5_tells_70 rfl rfl (hk := fun h => h)
    · refine V_aload_n (pc := 27) dX5_tells_27 rfl rfl ?_
      refine V_aload_n (pc := 28) dX5_tells_28 rfl rfl ?_
      refine V_callVi (pc := 29) (As := [.ref (wB w + h1)]) (rest := []) (c_X5_tellsLine w n h1 k_h1 a21_2) cw_X5_24 rfl rfl dX5_tells_29 kc_51 ci_5 ⟨Nat.le_of_ble_eq_true rfl, Nat.le_of_ble_eq_true rfl⟩ rfl rfl (Nat.le_of_ble_eq_true rfl) (Nat.le_of_ble_eq_true rfl) (Nat.le_of_ble_eq_true rfl) rfl (fun q29 => ?_)
      refine V_if_ne (pc := 32) (tgt := 37) dX5_tells_32 (by decide +kernel) ?_ ?_
      · refine V_aload_n (pc := 37) dX5_tells_37 rfl rfl ?_
        refine V_getr (pc := 38) (t := 1) fk_X5_9 rfl dX5_tells_38 kc_51 rf_5_0_51 ?_
        refine V_callVpi (pc := 41) (As := []) (rest := []) (c_X9_isOver w  q29.2) cw_X5_20 rfl rfl dX5_tells_41 kc_1 ci_9 ⟨Nat.le_of_ble_eq_true rfl, Nat.le_of_ble_eq_true rfl⟩ rfl rfl (Nat.le_of_ble_eq_true rfl) (Nat.le_of_ble_eq_true rfl) (Nat.le_of_ble_eq_true rfl) rfl (fun q41 => ?_)
        refine V_if_eq (pc := 44) (tgt := 49) dX5_tells_44 (by decide +kernel) ?_ ?_
        · refine V_aload_n (pc := 49) dX5_tells_49 rfl rfl ?_
          refine V_getr (pc := 50) (t := 1) fk_X5_9 rfl dX5_tells_50 kc_51 rf_5_0_51 ?_
          refine V_bipush (pc := 53) dX5_tells_53 bp_59 ?_
          refine V_callVi (pc := 55) (As := [.int (59 : Int32)]) (rest := []) (c_X9_skipSign w n (59 : Int32) q29.2) cw_X5_28 rfl rfl dX5_tells_55 kc_1 ci_9 ⟨Nat.le_of_ble_eq_true rfl, Nat.le_of_ble_eq_true rfl⟩ rfl rfl (Nat.le_of_ble_eq_true rfl) (Nat.le_of_ble_eq_true rfl) (Nat.le_of_ble_eq_true rfl) rfl (fun q55 => ?_)
          refine V_if_ne (pc := 58) (tgt := 63) dX5_tells_58 (by decide +kernel) ?_ ?_
          · refine V_iincC (pc := 63) (vs' := [some (.ref (wB w + 51)), some (.ref (wB w + h1)), some (.int (a21_1 + (1 : Int32)))]) dX5_tells_63 (Nat.le_of_ble_eq_true rfl) rfl ic_1 rfl ?_
            refine V_goto (pc := 66) (tgt := 21) dX5_tells_66 (by decide +kernel) ?_
            exact V_back (b21 ((a21_1 + (1 : Int32)), q55.2))
          · refine V_exit r21 ?_
            refine V_iconst (pc := 61) dX5_tells_61 ic_0 ?_
            exact V_iretz (pc := 62) dX5_tells_62 rfl rfl (hk := fun h => h)
        · refine V_exit r21 ?_
          refine V_iconst (pc := 47) dX5_tells_47 ic_1 ?_
          exact V_iretz (pc := 48) dX5_tells_48 rfl rfl (hk := fun h => h)
      · refine V_exit r21 ?_
        refine V_iconst (pc := 35) dX5_tells_35 ic_0 ?_
        exact V_iretz (pc := 36) dX5_tells_36 rfl rfl (hk := fun h => h)
  refine V_aload_n (pc := 0) dX5_tells_0 rfl rfl ?_
  refine V_getr (pc := 1) (t := 1) fk_X5_9 rfl dX5_tells_1 kc_51 rf_5_0_51 ?_
  refine V_callVv (pc := 4) (As := []) (rest := []) (c_X9_begin w n  σ) cw_X5_15 rfl rfl dX5_tells_4 kc_1 ci_9 ⟨Nat.le_of_ble_eq_true rfl, Nat.le_of_ble_eq_true rfl⟩ rfl rfl (Nat.le_of_ble_eq_true rfl) (Nat.le_of_ble_eq_true rfl) (Nat.le_of_ble_eq_true rfl) rfl (fun q4 => ?_)
  refine V_aload_n (pc := 7) dX5_tells_7 rfl rfl ?_
  refine V_getr (pc := 8) (t := 1) fk_X5_9 rfl dX5_tells_8 kc_51 rf_5_0_51 ?_
  refine V_callVpi (pc := 11) (As := []) (rest := []) (c_X9_isOver w  q4.2) cw_X5_20 rfl rfl dX5_tells_11 kc_1 ci_9 ⟨Nat.le_of_ble_eq_true rfl, Nat.le_of_ble_eq_true rfl⟩ rfl rfl (Nat.le_of_ble_eq_true rfl) (Nat.le_of_ble_eq_true rfl) (Nat.le_of_ble_eq_true rfl) rfl (fun q11 => ?_)
  refine V_if_eq (pc := 14) (tgt := 19) dX5_tells_14 (by decide +kernel) ?_ ?_
  · refine V_iconst (pc := 19) dX5_tells_19 ic_0 ?_
    refine V_istore_n (pc := 20) (vs' := [some (.ref (wB w + 51)), some (.ref (wB w + h1)), some (.int (0 : Int32))]) dX5_tells_20 rfl (Nat.le_of_ble_eq_true rfl) (Nat.le_of_ble_eq_true rfl) rfl ?_
    exact hL21 n ((0 : Int32), q4.2)
  · refine V_iconst (pc := 17) dX5_tells_17 ic_1 ?_
    exact V_iretz (pc := 18) dX5_tells_18 rfl rfl (hk := fun h => h)
def J_X7_tellsSum_82 (n : Nat) (h1 : Nat) (v2 : Int32) (σ : MS) : Option ((Int32 × MS) ⊕ (Int32 × MS)) := ((f_X9_isSign (43 : Int32) σ).bind (fun q88 => (if q88 = 0 then (some ((1 : Int32), σ)).map Sum.inr else ((f_X9_advance n  σ).bind (fun q100 => some (.inl ((v2 + (1 : Int32)), q100.2)))))))
def J_X7_tellsSum_61 (n : Nat) (h1 : Nat) (v2 : Int32) (t0 : Int32) (σ : MS) : Option ((Int32 × MS) ⊕ (Int32 × MS)) := ((f_X6_addStep h1 t0 σ).bind (fun q61 => ((f_X9_advance n  q61.2).bind (fun q68 => (if v2 ≤ 0 then J_X7_tellsSum_82 n h1 v2 q68.2 else ((f_X6_addStep h1 (2003 : Int32) q68.2).bind (fun q79 => J_X7_tellsSum_82 n h1 v2 q79.2)))))))
def J_X7_tellsSum_45 (n : Nat) (h1 : Nat) (v2 : Int32) (v3 : Int32) (v4 : Int32) (σ : MS) : Option ((Int32 × MS) ⊕ (Int32 × MS)) := (if v3 = (-1 : Int32) then J_X7_tellsSum_61 n h1 v2 ((1000 : Int32) + v4) σ else J_X7_tellsSum_61 n h1 v2 v3 σ)
def L_X7_tellsSum_2 (n : Nat) (h1 : Nat) (σ : MS) (a2 : Int32 × MS) : Option ((Int32 × MS) ⊕ (Int32 × MS)) := (if (400 : Int32) ≤ a2.1 then (some ((0 : Int32), a2.2)).map Sum.inr else ((f_X9_number n (0 : Int32) (999 : Int32) a2.2).bind (fun q17 => ((f_X9_wordAmong n 32 a2.2).bind (fun q27 => (if q17 = (-1 : Int32) then (if q27 = (-1 : Int32) then (some ((0 : Int32), a2.2)).map Sum.inr else J_X7_tellsSum_45 n h1 a2.1 q17 q27 a2.2) else J_X7_tellsSum_45 n h1 a2.1 q17 q27 a2.2))))))
def f_X7_tellsSum (n : Nat) (h1 : Nat) (σ : MS) : Option (Int32 × MS) := itr (L_X7_tellsSum_2 n h1 σ) n ((0 : Int32), σ)
set_option maxRecDepth 20000 in
set_option maxHeartbeats 2000000 in
theorem c_X7_tellsSum (w : TG) (n : Nat) (h1 : Nat) (k_h1 : kd h1 = 6) (σ : MS) : MC m_X7_tellsSum w [.ref (wB w + 52), .ref (wB w + h1)] σ (f_X7_tellsSum n h1 σ) := by
  refine V_meth (by decide +kernel) (Nat.le_of_ble_eq_true rfl) (by intro v hv; simp only [List.mem_cons, List.not_mem_nil, or_false] at hv; rcases hv with rfl | rfl <;> rfl) (fun g x => ?_)
  show VV m_X7_tellsSum w g 0 0 (QM m_X7_tellsSum w g x) (fun b : Int32 × MS => b = x) 0 [some (.ref (wB w + 52)), some (.ref (wB w + h1)), none, none, none] [] σ (f_X7_tellsSum n h1 σ)
  have hL2 : ∀  (n0 : Nat) (a : Int32 × MS), VV m_X7_tellsSum w g 0 0 (QM m_X7_tellsSum w g x) (fun b : Int32 × MS => b = x) 2 [some (.ref (wB w + 52)), some (.ref (wB w + h1)), some (.int a.1), none, none] [] a.2 (itr (L_X7_tellsSum_2 n h1 σ) n0 a) := by
    refine V_itr (vf := fun a : Int32 × MS => [some (.ref (wB w + 52)), some (.ref (wB w + h1)), some (.int a.1), none, none]) (sf := fun a : Int32 × MS => a.2) (fun κ2 b2 r2 a2 => ?_)
    obtain ⟨a2_1, a2_2⟩ := a2
    show VV m_X7_tellsSum w g 0 0 (QM m_X7_tellsSum w g x) κ2 2 [some (.ref (wB w + 52)), some (.ref (wB w + h1)), some (.int a2_1), none, none] [] a2_2 (L_X7_tellsSum_2 n h1 σ (a2_1, a2_2))
    have hJ82 : ∀ (v2 : Int32) (σ : MS), VV m_X7_tellsSum w g 0 0 (QM m_X7_tellsSum w g x) κ2 82 [some (.ref (wB w + 52)), some (.ref (wB w + h1)), some (.int v2), none, none] [] σ (J_X7_tellsSum_82 n h1 v2 σ) := by
      intro v2 σ
      refine V_aload_n (pc := 82) dX7_tellsSum_82 rfl rfl ?_
      refine V_getr (pc := 83) (t := 1) fk_X7_9 rfl dX7_tellsSum_83 kc_52 rf_7_0_52 ?_
      refine V_bipush (pc := 86) dX7_tellsSum_86 bp_43 ?_
      refine V_callVpi (pc := 88) (As := [.int (43 : Int32)]) (rest := []) (c_X9_isSign w (43 : Int32) σ) cw_X7_75 rfl rfl dX7_tellsSum_88 kc_1 ci_9 ⟨Nat.le_of_ble_eq_true rfl, Nat.le_of_ble_eq_true rfl⟩ rfl rfl (Nat.le_of_ble_eq_true rfl) (Nat.le_of_ble_eq_true rfl) (Nat.le_of_ble_eq_true rfl) rfl (fun q88 => ?_)
      refine V_if_ne (pc := 91) (tgt := 96) dX7_tellsSum_91 (by decide +kernel) ?_ ?_
      · refine V_aload_n (pc := 96) dX7_tellsSum_96 rfl rfl ?_
        refine V_getr (pc := 97) (t := 1) fk_X7_9 rfl dX7_tellsSum_97 kc_52 rf_7_0_52 ?_
        refine V_callVv (pc := 100) (As := []) (rest := []) (c_X9_advance w n  σ) cw_X7_41 rfl rfl dX7_tellsSum_100 kc_1 ci_9 ⟨Nat.le_of_ble_eq_true rfl, Nat.le_of_ble_eq_true rfl⟩ rfl rfl (Nat.le_of_ble_eq_true rfl) (Nat.le_of_ble_eq_true rfl) (Nat.le_of_ble_eq_true rfl) rfl (fun q100 => ?_)
        refine V_iincC (pc := 103) (vs' := [some (.ref (wB w + 52)), some (.ref (wB w + h1)), some (.int (v2 + (1 : Int32))), none, none]) dX7_tellsSum_103 (Nat.le_of_ble_eq_true rfl) rfl ic_1 rfl ?_
        refine V_goto (pc := 106) (tgt := 2) dX7_tellsSum_106 (by decide +kernel) ?_
        exact V_back (b2 ((v2 + (1 : Int32)), q100.2))
      · refine V_exit r2 ?_
        refine V_iconst (pc := 94) dX7_tellsSum_94 ic_1 ?_
        exact V_iretz (pc := 95) dX7_tellsSum_95 rfl rfl (hk := fun h => h)
    have hJ61 : ∀ (v2 : Int32) (t0 : Int32) (σ : MS), VV m_X7_tellsSum w g 0 0 (QM m_X7_tellsSum w g x) κ2 61 [some (.ref (wB w + 52)), some (.ref (wB w + h1)), some (.int v2), none, none] [.int t0, .ref (wB w + h1)] σ (J_X7_tellsSum_61 n h1 v2 t0 σ) := by
      intro v2 t0 σ
      refine V_callVv (pc := 61) (As := [.int t0]) (rest := []) (c_X6_addStep w h1 t0 k_h1 σ) cw_X7_65 rfl rfl dX7_tellsSum_61 k_h1 ci_6 ⟨Nat.le_of_ble_eq_true rfl, Nat.le_of_ble_eq_true rfl⟩ rfl rfl (Nat.le_of_ble_eq_true rfl) (Nat.le_of_ble_eq_true rfl) (Nat.le_of_ble_eq_true rfl) rfl (fun q61 => ?_)
      refine V_aload_n (pc := 64) dX7_tellsSum_64 rfl rfl ?_
      refine V_getr (pc := 65) (t := 1) fk_X7_9 rfl dX7_tellsSum_65 kc_52 rf_7_0_52 ?_
      refine V_callVv (pc := 68) (As := []) (rest := []) (c_X9_advance w n  q61.2) cw_X7_41 rfl rfl dX7_tellsSum_68 kc_1 ci_9 ⟨Nat.le_of_ble_eq_true rfl, Nat.le_of_ble_eq_true rfl⟩ rfl rfl (Nat.le_of_ble_eq_true rfl) (Nat.le_of_ble_eq_true rfl) (Nat.le_of_ble_eq_true rfl) rfl (fun q68 => ?_)
      refine V_iload_n (pc := 71) dX7_tellsSum_71 rfl rfl ?_
      refine V_if_le (pc := 72) (tgt := 82) dX7_tellsSum_72 (by decide +kernel) ?_ ?_
      · exact hJ82 v2 q68.2
      · refine V_aload_n (pc := 75) dX7_tellsSum_75 rfl rfl ?_
        refine V_sipush (pc := 76) dX7_tellsSum_76 sp_2003 ?_
        refine V_callVv (pc := 79) (As := [.int (2003 : Int32)]) (rest := []) (c_X6_addStep w h1 (2003 : Int32) k_h1 q68.2) cw_X7_65 rfl rfl dX7_tellsSum_79 k_h1 ci_6 ⟨Nat.le_of_ble_eq_true rfl, Nat.le_of_ble_eq_true rfl⟩ rfl rfl (Nat.le_of_ble_eq_true rfl) (Nat.le_of_ble_eq_true rfl) (Nat.le_of_ble_eq_true rfl) rfl (fun q79 => ?_)
        exact hJ82 v2 q79.2
    have hJ45 : ∀ (v2 : Int32) (v3 : Int32) (v4 : Int32) (σ : MS), VV m_X7_tellsSum w g 0 0 (QM m_X7_tellsSum w g x) κ2 45 [some (.ref (wB w + 52)), some (.ref (wB w + h1)), some (.int v2), some (.int v3), some (.int v4)] [] σ (J_X7_tellsSum_45 n h1 v2 v3 v4 σ) := by
      intro v2 v3 v4 σ
      refine V_aload_n (pc := 45) dX7_tellsSum_45 rfl rfl ?_
      refine V_iload_n (pc := 46) dX7_tellsSum_46 rfl rfl ?_
      refine V_iconst (pc := 47) dX7_tellsSum_47 ic_m1 ?_
      refine V_icmp_eq (pc := 48) (tgt := 55) dX7_tellsSum_48 (by decide +kernel) ?_ ?_
      · refine V_sipush (pc := 55) dX7_tellsSum_55 sp_1000 ?_
        refine V_iload (pc := 58) dX7_tellsSum_58 rfl ?_
        refine V_iadd (pc := 60) dX7_tellsSum_60 ?_
        refine V_sub (vs' := [some (.ref (wB w + 52)), some (.ref (wB w + h1)), some (.int v2), none, none]) (show vless _ _ from ⟨rfl, ⟨rfl, ⟨rfl, trivial⟩⟩⟩) rfl ?_
        exact hJ61 v2 ((1000 : Int32) + v4) σ
      · refine V_iload_n (pc := 51) dX7_tellsSum_51 rfl rfl ?_
        refine V_goto (pc := 52) (tgt := 61) dX7_tellsSum_52 (by decide +kernel) ?_
        refine V_sub (vs' := [some (.ref (wB w + 52)), some (.ref (wB w + h1)), some (.int v2), none, none]) (show vless _ _ from ⟨rfl, ⟨rfl, ⟨rfl, trivial⟩⟩⟩) rfl ?_
        exact hJ61 v2 v3 σ
    refine V_iload_n (pc := 2) dX7_tellsSum_2 rfl rfl ?_
    refine V_sipush (pc := 3) dX7_tellsSum_3 sp_400 ?_
    refine V_icmp_ge (pc := 6) (tgt := 109) dX7_tellsSum_6 (by decide +kernel) ?_ ?_
    · refine V_exit r2 ?_
      refine V_iconst (pc := 109) dX7_tellsSum_109 ic_0 ?_
      exact V_iretz (pc := 110) dX7_tellsSum_110 rfl rfl (hk := fun h => h)
    · refine V_aload_n (pc := 9) dX7_tellsSum_9 rfl rfl ?_
      refine V_getr (pc := 10) (t := 1) fk_X7_9 rfl dX7_tellsSum_10 kc_52 rf_7_0_52 ?_
      refine V_iconst (pc := 13) dX7_tellsSum_13 ic_0 ?_
      refine V_sipush (pc := 14) dX7_tellsSum_14 sp_999 ?_
      refine V_callVpi (pc := 17) (As := [.int (0 : Int32), .int (999 : Int32)]) (rest := []) (c_X9_number w n (0 : Int32) (999 : Int32) a2_2) cw_X7_44 rfl rfl dX7_tellsSum_17 kc_1 ci_9 ⟨Nat.le_of_ble_eq_true rfl, Nat.le_of_ble_eq_true rfl⟩ rfl rfl (Nat.le_of_ble_eq_true rfl) (Nat.le_of_ble_eq_true rfl) (Nat.le_of_ble_eq_true rfl) rfl (fun q17 => ?_)
      refine V_istore_n (pc := 20) (vs' := [some (.ref (wB w + 52)), some (.ref (wB w + h1)), some (.int a2_1), some (.int q17), none]) dX7_tellsSum_20 rfl (Nat.le_of_ble_eq_true rfl) (Nat.le_of_ble_eq_true rfl) rfl ?_
      refine V_aload_n (pc := 21) dX7_tellsSum_21 rfl rfl ?_
      refine V_getr (pc := 22) (t := 1) fk_X7_9 rfl dX7_tellsSum_22 kc_52 rf_7_0_52 ?_
      refine V_ldcS (pc := 25) (i := 32) (tx := "one other sip many liking day") dX7_tellsSum_25 rfl (show (RX7, 83, "one other sip many liking day", 32) ∈ strT from by decide +kernel) ?_
      refine V_callVpi (pc := 27) (As := [.ref (wS w 32)]) (rest := []) (c_X9_wordAmong w n 32 (by decide) a2_2) cw_X7_37 rfl rfl dX7_tellsSum_27 kc_1 ci_9 ⟨Nat.le_of_ble_eq_true rfl, Nat.le_of_ble_eq_true rfl⟩ rfl rfl (Nat.le_of_ble_eq_true rfl) (Nat.le_of_ble_eq_true rfl) (Nat.le_of_ble_eq_true rfl) rfl (fun q27 => ?_)
      refine V_istore (pc := 30) (vs' := [some (.ref (wB w + 52)), some (.ref (wB w + h1)), some (.int a2_1), some (.int q17), some (.int q27)]) dX7_tellsSum_30 (Nat.le_of_ble_eq_true rfl) (Nat.le_of_ble_eq_true rfl) rfl ?_
      refine V_iload_n (pc := 32) dX7_tellsSum_32 rfl rfl ?_
      refine V_iconst (pc := 33) dX7_tellsSum_33 ic_m1 ?_
      refine V_icmp_ne (pc := 34) (tgt := 45) dX7_tellsSum_34 (by decide +kernel) ?_ ?_
      · exact hJ45 a2_1 q17 q27 a2_2
      · refine V_iload (pc := 37) dX7_tellsSum_37 rfl ?_
        refine V_iconst (pc := 39) dX7_tellsSum_39 ic_m1 ?_
        refine V_icmp_ne (pc := 40) (tgt := 45) dX7_tellsSum_40 (by decide +kernel) ?_ ?_
        · exact hJ45 a2_1 q17 q27 a2_2
        · refine V_exit r2 ?_
          refine V_iconst (pc := 43) dX7_tellsSum_43 ic_0 ?_
          exact V_iretz (pc := 44) dX7_tellsSum_44 rfl rfl (hk := fun h => h)
  refine V_iconst (pc := 0) dX7_tellsSum_0 ic_0 ?_
  refine V_istore_n (pc := 1) (vs' := [some (.ref (wB w + 52)), some (.ref (wB w + h1)), some (.int (0 : Int32)), none, none]) dX7_tellsSum_1 rfl (Nat.le_of_ble_eq_true rfl) (Nat.le_of_ble_eq_true rfl) rfl ?_
  exact hL2 n ((0 : Int32), σ)
def IH_gt (d : Nat) (r : RT_gt) : Prop := (∀ (w : TG) (h1 : Nat) (p2 : Int32) (k_h1 : kd h1 = 6) (σ : MS), MC (mr_X7_tellsAtom d) w [.ref (wB w + 52), .ref (wB w + h1), .int p2] σ (r.1 h1 p2 σ)) ∧ (∀ (w : TG) (h1 : Nat) (p2 : Int32) (k_h1 : kd h1 = 6) (σ : MS), MC (mr_X7_tellsCondition d) w [.ref (wB w + 52), .ref (wB w + h1), .int p2] σ (r.2 h1 p2 σ))
def J_X7_tellsAtom_185 (r : RT_gt) (n : Nat) (h1 : Nat) (t0 : Int32) (σ : MS) : Option (Int32 × MS) := (if t0 = (-1 : Int32) then some ((0 : Int32), σ) else ((f_X9_advance n  σ).bind (fun q199 => ((f_X7_tellsSum n h1 q199.2).bind (fun q204 => ((f_X6_addStep h1 t0 q204.2).bind (fun q212 => (if q204.1 = 0 ∨ q204.1 = 1 then some (q204.1, q212.2) else none))))))))
def J_X7_tellsAtom_81 (r : RT_gt) (n : Nat) (h1 : Nat) (t0 : Int32) (σ : MS) : Option (Int32 × MS) := (if t0 = 0 ∨ t0 = 1 then some (t0, σ) else none)
def J_X7_tellsAtom_80 (r : RT_gt) (n : Nat) (h1 : Nat) (σ : MS) : Option (Int32 × MS) := J_X7_tellsAtom_81 r n h1 (0 : Int32) σ
def J_X7_tellsAtom_34 (r : RT_gt) (n : Nat) (h1 : Nat) (v2 : Int32) (v3 : Int32) (σ : MS) : Option (Int32 × MS) := (if v2 < (6 : Int32) then ((f_X9_advance n  σ).bind (fun q46 => (if v3 = 0 then ((r.2 h1 (v2 + (1 : Int32)) q46.2).bind (fun q58 => (if q58.1 = 0 then J_X7_tellsAtom_80 r n h1 q58.2 else ((f_X9_skipSign n (41 : Int32) q58.2).bind (fun q70 => (if q70.1 = 0 then J_X7_tellsAtom_80 r n h1 q70.2 else J_X7_tellsAtom_81 r n h1 (1 : Int32) q70.2)))))) else ((r.1 h1 (v2 + (1 : Int32)) q46.2).bind (fun q87 => ((f_X6_addStep h1 (2000 : Int32) q87.2).bind (fun q96 => (if q87.1 = 0 ∨ q87.1 = 1 then some (q87.1, q96.2) else none)))))))) else some ((0 : Int32), σ))
def J_X7_tellsAtom_17 (r : RT_gt) (n : Nat) (h1 : Nat) (v2 : Int32) (t0 : Int32) (σ : MS) : Option (Int32 × MS) := (if t0 = 0 then ((f_X9_isSign (40 : Int32) σ).bind (fun q28 => (if q28 = 0 then ((f_X9_wordAmong n 31 σ).bind (fun q108 => (if q108 = (-1 : Int32) then ((f_X7_tellsSum n h1 σ).bind (fun q140 => (if q140.1 = 0 then some ((0 : Int32), q140.2) else ((f_X9_isSign (60 : Int32) q140.2).bind (fun q154 => (if q154 = 0 then ((f_X9_isSign (62 : Int32) q140.2).bind (fun q172 => (if q172 = 0 then J_X7_tellsAtom_185 r n h1 (-1 : Int32) q140.2 else J_X7_tellsAtom_185 r n h1 (2005 : Int32) q140.2))) else J_X7_tellsAtom_185 r n h1 (2004 : Int32) q140.2)))))) else ((f_X6_addStep h1 ((1006 : Int32) + q108) σ).bind (fun q126 => ((f_X9_advance n  q126.2).bind (fun q133 => some ((1 : Int32), q133.2)))))))) else J_X7_tellsAtom_34 r n h1 v2 t0 σ))) else J_X7_tellsAtom_34 r n h1 v2 t0 σ)
def F_X7_tellsAtom (r : RT_gt) (n : Nat) (h1 : Nat) (p2 : Int32) (σ : MS) : Option (Int32 × MS) := ((f_X9_wordAmong n 30 σ).bind (fun q6 => (if q6 = 0 then J_X7_tellsAtom_17 r n h1 p2 (1 : Int32) σ else J_X7_tellsAtom_17 r n h1 p2 (0 : Int32) σ)))
def J_X7_tellsCondition_85 (r : RT_gt) (n : Nat) (h1 : Nat) (v2 : Int32) (v3 : Int32) (v4 : Int32) (v5 : Int32) (σ : MS) : Option ((Int32 × Int32 × Int32 × MS) ⊕ (Int32 × MS)) := some (.inl (v3, v4, (v5 + (1 : Int32)), σ))
def J_X7_tellsCondition_69 (r : RT_gt) (n : Nat) (h1 : Nat) (v2 : Int32) (v4 : Int32) (v5 : Int32) (σ : MS) : Option ((Int32 × Int32 × Int32 × MS) ⊕ (Int32 × MS)) := ((f_X9_skipWord n 29 σ).bind (fun q75 => (if q75.1 = 0 then (some ((1 : Int32), q75.2)).map Sum.inr else J_X7_tellsCondition_85 r n h1 v2 q75.1 v4 v5 q75.2)))
def J_X7_tellsCondition_39 (r : RT_gt) (n : Nat) (h1 : Nat) (v2 : Int32) (v3 : Int32) (v5 : Int32) (σ : MS) : Option ((Int32 × Int32 × Int32 × MS) ⊕ (Int32 × MS)) := ((f_X9_skipWord n 28 σ).bind (fun q45 => (if q45.1 = 0 then (if v3 = 0 then J_X7_tellsCondition_69 r n h1 v2 q45.1 v5 q45.2 else ((f_X6_addStep h1 (2002 : Int32) q45.2).bind (fun q66 => J_X7_tellsCondition_69 r n h1 v2 q45.1 v5 q66.2))) else J_X7_tellsCondition_85 r n h1 v2 v3 q45.1 v5 q45.2)))
def L_X7_tellsCondition_8 (r : RT_gt) (n : Nat) (h1 : Nat) (v2 : Int32) (σ : MS) (a8 : Int32 × Int32 × Int32 × MS) : Option ((Int32 × Int32 × Int32 × MS) ⊕ (Int32 × MS)) := (if (400 : Int32) ≤ a8.2.2.1 then (some ((0 : Int32), a8.2.2.2)).map Sum.inr else ((r.1 h1 v2 a8.2.2.2).bind (fun q19 => (if q19.1 = 0 then (some ((0 : Int32), q19.2)).map Sum.inr else (if a8.2.1 = 0 then J_X7_tellsCondition_39 r n h1 v2 a8.1 a8.2.2.1 q19.2 else ((f_X6_addStep h1 (2001 : Int32) q19.2).bind (fun q36 => J_X7_tellsCondition_39 r n h1 v2 a8.1 a8.2.2.1 q36.2)))))))
def F_X7_tellsCondition (r : RT_gt) (n : Nat) (h1 : Nat) (p2 : Int32) (σ : MS) : Option (Int32 × MS) := itr (L_X7_tellsCondition_8 r n h1 p2 σ) n ((0 : Int32), (0 : Int32), (0 : Int32), σ)
set_option maxRecDepth 20000 in
set_option maxHeartbeats 2000000 in
theorem cst_X7_tellsAtom (n d : Nat) (r : RT_gt) (ih : IH_gt d r) (w : TG) (h1 : Nat) (p2 : Int32) (k_h1 : kd h1 = 6) (σ : MS) : MC (mr_X7_tellsAtom (d + 1)) w [.ref (wB w + 52), .ref (wB w + h1), .int p2] σ (F_X7_tellsAtom r n h1 p2 σ) := by
  refine V_meth (show plainName RX7 = true from by decide +kernel) (Nat.le_of_ble_eq_true rfl) (by intro v hv; simp only [List.mem_cons, List.not_mem_nil, or_false] at hv; rcases hv with rfl | rfl | rfl <;> rfl) (fun g x => ?_)
  show VV (mr_X7_tellsAtom (d + 1)) w g 0 0 (QM (mr_X7_tellsAtom (d + 1)) w g x) (fun b : Int32 × MS => b = x) 0 [some (.ref (wB w + 52)), some (.ref (wB w + h1)), some (.int p2), none, none, none, none] [] σ (F_X7_tellsAtom r n h1 p2 σ)
  have hJ185 : ∀ (t0 : Int32) (σ : MS), VV (mr_X7_tellsAtom (d + 1)) w g 0 0 (QM (mr_X7_tellsAtom (d + 1)) w g x) (fun b : Int32 × MS => b = x) 185 [some (.ref (wB w + 52)), some (.ref (wB w + h1)), none, none, none, none, none] [.int t0] σ (J_X7_tellsAtom_185 r n h1 t0 σ) := by
    intro t0 σ
    refine V_istore (pc := 185) (vs' := [some (.ref (wB w + 52)), some (.ref (wB w + h1)), none, none, none, some (.int t0), none]) dX7_tellsAtom_185 (Nat.le_of_ble_eq_true rfl) (Nat.le_of_ble_eq_true rfl) rfl ?_
    refine V_iload (pc := 187) dX7_tellsAtom_187 rfl ?_
    refine V_iconst (pc := 189) dX7_tellsAtom_189 ic_m1 ?_
    refine V_icmp_ne (pc := 190) (tgt := 195) dX7_tellsAtom_190 (by decide +kernel) ?_ ?_
    · refine V_aload_n (pc := 195) dX7_tellsAtom_195 rfl rfl ?_
      refine V_getr (pc := 196) (t := 1) fk_X7_9 rfl dX7_tellsAtom_196 kc_52 rf_7_0_52 ?_
      refine V_callVv (pc := 199) (As := []) (rest := []) (c_X9_advance w n  σ) cw_X7_41 rfl rfl dX7_tellsAtom_199 kc_1 ci_9 ⟨by simp only [mr_X7_tellsAtom, m_X9_advance]; omega, by simp only [mr_X7_tellsAtom, m_X9_advance]; omega⟩ rfl rfl (Nat.le_of_ble_eq_true rfl) (Nat.le_of_ble_eq_true rfl) (Nat.le_of_ble_eq_true rfl) rfl (fun q199 => ?_)
      refine V_aload_n (pc := 202) dX7_tellsAtom_202 rfl rfl ?_
      refine V_aload_n (pc := 203) dX7_tellsAtom_203 rfl rfl ?_
      refine V_callVi (pc := 204) (As := [.ref (wB w + h1)]) (rest := []) (c_X7_tellsSum w n h1 k_h1 q199.2) cw_X7_80 rfl rfl dX7_tellsAtom_204 kc_52 ci_7 ⟨by simp only [mr_X7_tellsAtom, m_X7_tellsSum]; omega, by simp only [mr_X7_tellsAtom, m_X7_tellsSum]; omega⟩ rfl rfl (Nat.le_of_ble_eq_true rfl) (Nat.le_of_ble_eq_true rfl) (Nat.le_of_ble_eq_true rfl) rfl (fun q204 => ?_)
      refine V_istore (pc := 207) (vs' := [some (.ref (wB w + 52)), some (.ref (wB w + h1)), none, none, none, some (.int t0), some (.int q204.1)]) dX7_tellsAtom_207 (Nat.le_of_ble_eq_true rfl) (Nat.le_of_ble_eq_true rfl) rfl ?_
      refine V_aload_n (pc := 209) dX7_tellsAtom_209 rfl rfl ?_
      refine V_iload (pc := 210) dX7_tellsAtom_210 rfl ?_
      refine V_callVv (pc := 212) (As := [.int t0]) (rest := []) (c_X6_addStep w h1 t0 k_h1 q204.2) cw_X7_65 rfl rfl dX7_tellsAtom_212 k_h1 ci_6 ⟨by simp only [mr_X7_tellsAtom, m_X6_addStep]; omega, by simp only [mr_X7_tellsAtom, m_X6_addStep]; omega⟩ rfl rfl (Nat.le_of_ble_eq_true rfl) (Nat.le_of_ble_eq_true rfl) (Nat.le_of_ble_eq_true rfl) rfl (fun q212 => ?_)
      refine V_iload (pc := 215) dX7_tellsAtom_215 rfl ?_
      exact V_iretZ (pc := 217) dX7_tellsAtom_217 rfl (hk := fun h => h)
    · refine V_iconst (pc := 193) dX7_tellsAtom_193 ic_0 ?_
      exact V_iretz (pc := 194) dX7_tellsAtom_194 rfl rfl (hk := fun h => h)
  have hJ81 : ∀ (t0 : Int32) (σ : MS), VV (mr_X7_tellsAtom (d + 1)) w g 0 0 (QM (mr_X7_tellsAtom (d + 1)) w g x) (fun b : Int32 × MS => b = x) 81 [none, none, none, none, none, none, none] [.int t0] σ (J_X7_tellsAtom_81 r n h1 t0 σ) := by
    intro t0 σ
    exact V_iretZ (pc := 81) dX7_tellsAtom_81 rfl (hk := fun h => h)
  have hJ80 : ∀ (σ : MS), VV (mr_X7_tellsAtom (d + 1)) w g 0 0 (QM (mr_X7_tellsAtom (d + 1)) w g x) (fun b : Int32 × MS => b = x) 80 [none, none, none, none, none, none, none] [] σ (J_X7_tellsAtom_80 r n h1 σ) := by
    intro σ
    refine V_iconst (pc := 80) dX7_tellsAtom_80 ic_0 ?_
    exact hJ81 (0 : Int32) σ
  have hJ34 : ∀ (v3 : Int32) (σ : MS), VV (mr_X7_tellsAtom (d + 1)) w g 0 0 (QM (mr_X7_tellsAtom (d + 1)) w g x) (fun b : Int32 × MS => b = x) 34 [some (.ref (wB w + 52)), some (.ref (wB w + h1)), some (.int p2), some (.int v3), none, none, none] [] σ (J_X7_tellsAtom_34 r n h1 p2 v3 σ) := by
    intro v3 σ
    refine V_iload_n (pc := 34) dX7_tellsAtom_34 rfl rfl ?_
    refine V_bipush (pc := 35) dX7_tellsAtom_35 bp_6 ?_
    refine V_icmp_lt (pc := 37) (tgt := 42) dX7_tellsAtom_37 (by decide +kernel) ?_ ?_
    · refine V_aload_n (pc := 42) dX7_tellsAtom_42 rfl rfl ?_
      refine V_getr (pc := 43) (t := 1) fk_X7_9 rfl dX7_tellsAtom_43 kc_52 rf_7_0_52 ?_
      refine V_callVv (pc := 46) (As := []) (rest := []) (c_X9_advance w n  σ) cw_X7_41 rfl rfl dX7_tellsAtom_46 kc_1 ci_9 ⟨by simp only [mr_X7_tellsAtom, m_X9_advance]; omega, by simp only [mr_X7_tellsAtom, m_X9_advance]; omega⟩ rfl rfl (Nat.le_of_ble_eq_true rfl) (Nat.le_of_ble_eq_true rfl) (Nat.le_of_ble_eq_true rfl) rfl (fun q46 => ?_)
      refine V_iload_n (pc := 49) dX7_tellsAtom_49 rfl rfl ?_
      refine V_if_ne (pc := 50) (tgt := 82) dX7_tellsAtom_50 (by decide +kernel) ?_ ?_
      · refine V_aload_n (pc := 82) dX7_tellsAtom_82 rfl rfl ?_
        refine V_aload_n (pc := 83) dX7_tellsAtom_83 rfl rfl ?_
        refine V_iload_n (pc := 84) dX7_tellsAtom_84 rfl rfl ?_
        refine V_iconst (pc := 85) dX7_tellsAtom_85 ic_1 ?_
        refine V_iadd (pc := 86) dX7_tellsAtom_86 ?_
        refine V_callVi (pc := 87) (As := [.ref (wB w + h1), .int (p2 + (1 : Int32))]) (rest := []) (ih.1 w h1 (p2 + (1 : Int32)) k_h1 q46.2) cw_X7_62 rfl rfl dX7_tellsAtom_87 kc_52 ci_7 ⟨by simp only [mr_X7_tellsAtom, mr_X7_tellsAtom]; omega, by simp only [mr_X7_tellsAtom, mr_X7_tellsAtom]; omega⟩ rfl rfl (Nat.le_of_ble_eq_true rfl) (Nat.le_of_ble_eq_true rfl) (Nat.le_of_ble_eq_true rfl) rfl (fun q87 => ?_)
        refine V_istore (pc := 90) (vs' := [some (.ref (wB w + 52)), some (.ref (wB w + h1)), some (.int p2), some (.int v3), some (.int q87.1), none, none]) dX7_tellsAtom_90 (Nat.le_of_ble_eq_true rfl) (Nat.le_of_ble_eq_true rfl) rfl ?_
        refine V_aload_n (pc := 92) dX7_tellsAtom_92 rfl rfl ?_
        refine V_sipush (pc := 93) dX7_tellsAtom_93 sp_2000 ?_
        refine V_callVv (pc := 96) (As := [.int (2000 : Int32)]) (rest := []) (c_X6_addStep w h1 (2000 : Int32) k_h1 q87.2) cw_X7_65 rfl rfl dX7_tellsAtom_96 k_h1 ci_6 ⟨by simp only [mr_X7_tellsAtom, m_X6_addStep]; omega, by simp only [mr_X7_tellsAtom, m_X6_addStep]; omega⟩ rfl rfl (Nat.le_of_ble_eq_true rfl) (Nat.le_of_ble_eq_true rfl) (Nat.le_of_ble_eq_true rfl) rfl (fun q96 => ?_)
        refine V_iload (pc := 99) dX7_tellsAtom_99 rfl ?_
        exact V_iretZ (pc := 101) dX7_tellsAtom_101 rfl (hk := fun h => h)
      · refine V_aload_n (pc := 53) dX7_tellsAtom_53 rfl rfl ?_
        refine V_aload_n (pc := 54) dX7_tellsAtom_54 rfl rfl ?_
        refine V_iload_n (pc := 55) dX7_tellsAtom_55 rfl rfl ?_
        refine V_iconst (pc := 56) dX7_tellsAtom_56 ic_1 ?_
        refine V_iadd (pc := 57) dX7_tellsAtom_57 ?_
        refine V_callVi (pc := 58) (As := [.ref (wB w + h1), .int (p2 + (1 : Int32))]) (rest := []) (ih.2 w h1 (p2 + (1 : Int32)) k_h1 q46.2) cw_X7_54 rfl rfl dX7_tellsAtom_58 kc_52 ci_7 ⟨by simp only [mr_X7_tellsAtom, mr_X7_tellsCondition]; omega, by simp only [mr_X7_tellsAtom, mr_X7_tellsCondition]; omega⟩ rfl rfl (Nat.le_of_ble_eq_true rfl) (Nat.le_of_ble_eq_true rfl) (Nat.le_of_ble_eq_true rfl) rfl (fun q58 => ?_)
        refine V_if_eq (pc := 61) (tgt := 80) dX7_tellsAtom_61 (by decide +kernel) ?_ ?_
        · refine V_sub (vs' := [none, none, none, none, none, none, none]) (show vless _ _ from trivial) rfl ?_
          exact hJ80 q58.2
        · refine V_aload_n (pc := 64) dX7_tellsAtom_64 rfl rfl ?_
          refine V_getr (pc := 65) (t := 1) fk_X7_9 rfl dX7_tellsAtom_65 kc_52 rf_7_0_52 ?_
          refine V_bipush (pc := 68) dX7_tellsAtom_68 bp_41 ?_
          refine V_callVi (pc := 70) (As := [.int (41 : Int32)]) (rest := []) (c_X9_skipSign w n (41 : Int32) q58.2) cw_X7_31 rfl rfl dX7_tellsAtom_70 kc_1 ci_9 ⟨by simp only [mr_X7_tellsAtom, m_X9_skipSign]; omega, by simp only [mr_X7_tellsAtom, m_X9_skipSign]; omega⟩ rfl rfl (Nat.le_of_ble_eq_true rfl) (Nat.le_of_ble_eq_true rfl) (Nat.le_of_ble_eq_true rfl) rfl (fun q70 => ?_)
          refine V_if_eq (pc := 73) (tgt := 80) dX7_tellsAtom_73 (by decide +kernel) ?_ ?_
          · refine V_sub (vs' := [none, none, none, none, none, none, none]) (show vless _ _ from trivial) rfl ?_
            exact hJ80 q70.2
          · refine V_iconst (pc := 76) dX7_tellsAtom_76 ic_1 ?_
            refine V_goto (pc := 77) (tgt := 81) dX7_tellsAtom_77 (by decide +kernel) ?_
            refine V_sub (vs' := [none, none, none, none, none, none, none]) (show vless _ _ from trivial) rfl ?_
            exact hJ81 (1 : Int32) q70.2
    · refine V_iconst (pc := 40) dX7_tellsAtom_40 ic_0 ?_
      exact V_iretz (pc := 41) dX7_tellsAtom_41 rfl rfl (hk := fun h => h)
  have hJ17 : ∀ (t0 : Int32) (σ : MS), VV (mr_X7_tellsAtom (d + 1)) w g 0 0 (QM (mr_X7_tellsAtom (d + 1)) w g x) (fun b : Int32 × MS => b = x) 17 [some (.ref (wB w + 52)), some (.ref (wB w + h1)), some (.int p2), none, none, none, none] [.int t0] σ (J_X7_tellsAtom_17 r n h1 p2 t0 σ) := by
    intro t0 σ
    refine V_istore_n (pc := 17) (vs' := [some (.ref (wB w + 52)), some (.ref (wB w + h1)), some (.int p2), some (.int t0), none, none, none]) dX7_tellsAtom_17 rfl (Nat.le_of_ble_eq_true rfl) (Nat.le_of_ble_eq_true rfl) rfl ?_
    refine V_iload_n (pc := 18) dX7_tellsAtom_18 rfl rfl ?_
    refine V_if_ne (pc := 19) (tgt := 34) dX7_tellsAtom_19 (by decide +kernel) ?_ ?_
    · exact hJ34 t0 σ
    · refine V_aload_n (pc := 22) dX7_tellsAtom_22 rfl rfl ?_
      refine V_getr (pc := 23) (t := 1) fk_X7_9 rfl dX7_tellsAtom_23 kc_52 rf_7_0_52 ?_
      refine V_bipush (pc := 26) dX7_tellsAtom_26 bp_40 ?_
      refine V_callVpi (pc := 28) (As := [.int (40 : Int32)]) (rest := []) (c_X9_isSign w (40 : Int32) σ) cw_X7_75 rfl rfl dX7_tellsAtom_28 kc_1 ci_9 ⟨by simp only [mr_X7_tellsAtom, m_X9_isSign]; omega, by simp only [mr_X7_tellsAtom, m_X9_isSign]; omega⟩ rfl rfl (Nat.le_of_ble_eq_true rfl) (Nat.le_of_ble_eq_true rfl) (Nat.le_of_ble_eq_true rfl) rfl (fun q28 => ?_)
      refine V_if_eq (pc := 31) (tgt := 102) dX7_tellsAtom_31 (by decide +kernel) ?_ ?_
      · refine V_aload_n (pc := 102) dX7_tellsAtom_102 rfl rfl ?_
        refine V_getr (pc := 103) (t := 1) fk_X7_9 rfl dX7_tellsAtom_103 kc_52 rf_7_0_52 ?_
        refine V_ldcS (pc := 106) (i := 31) (tx := "wed bound") dX7_tellsAtom_106 rfl (show (RX7, 78, "wed bound", 31) ∈ strT from by decide +kernel) ?_
        refine V_callVpi (pc := 108) (As := [.ref (wS w 31)]) (rest := []) (c_X9_wordAmong w n 31 (by decide) σ) cw_X7_37 rfl rfl dX7_tellsAtom_108 kc_1 ci_9 ⟨by simp only [mr_X7_tellsAtom, m_X9_wordAmong]; omega, by simp only [mr_X7_tellsAtom, m_X9_wordAmong]; omega⟩ rfl rfl (Nat.le_of_ble_eq_true rfl) (Nat.le_of_ble_eq_true rfl) (Nat.le_of_ble_eq_true rfl) rfl (fun q108 => ?_)
        refine V_istore (pc := 111) (vs' := [some (.ref (wB w + 52)), some (.ref (wB w + h1)), some (.int p2), some (.int t0), some (.int q108), none, none]) dX7_tellsAtom_111 (Nat.le_of_ble_eq_true rfl) (Nat.le_of_ble_eq_true rfl) rfl ?_
        refine V_iload (pc := 113) dX7_tellsAtom_113 rfl ?_
        refine V_iconst (pc := 115) dX7_tellsAtom_115 ic_m1 ?_
        refine V_icmp_eq (pc := 116) (tgt := 138) dX7_tellsAtom_116 (by decide +kernel) ?_ ?_
        · refine V_aload_n (pc := 138) dX7_tellsAtom_138 rfl rfl ?_
          refine V_aload_n (pc := 139) dX7_tellsAtom_139 rfl rfl ?_
          refine V_callVi (pc := 140) (As := [.ref (wB w + h1)]) (rest := []) (c_X7_tellsSum w n h1 k_h1 σ) cw_X7_80 rfl rfl dX7_tellsAtom_140 kc_52 ci_7 ⟨by simp only [mr_X7_tellsAtom, m_X7_tellsSum]; omega, by simp only [mr_X7_tellsAtom, m_X7_tellsSum]; omega⟩ rfl rfl (Nat.le_of_ble_eq_true rfl) (Nat.le_of_ble_eq_true rfl) (Nat.le_of_ble_eq_true rfl) rfl (fun q140 => ?_)
          refine V_if_ne (pc := 143) (tgt := 148) dX7_tellsAtom_143 (by decide +kernel) ?_ ?_
          · refine V_aload_n (pc := 148) dX7_tellsAtom_148 rfl rfl ?_
            refine V_getr (pc := 149) (t := 1) fk_X7_9 rfl dX7_tellsAtom_149 kc_52 rf_7_0_52 ?_
            refine V_bipush (pc := 152) dX7_tellsAtom_152 bp_60 ?_
            refine V_callVpi (pc := 154) (As := [.int (60 : Int32)]) (rest := []) (c_X9_isSign w (60 : Int32) q140.2) cw_X7_75 rfl rfl dX7_tellsAtom_154 kc_1 ci_9 ⟨by simp only [mr_X7_tellsAtom, m_X9_isSign]; omega, by simp only [mr_X7_tellsAtom, m_X9_isSign]; omega⟩ rfl rfl (Nat.le_of_ble_eq_true rfl) (Nat.le_of_ble_eq_true rfl) (Nat.le_of_ble_eq_true rfl) rfl (fun q154 => ?_)
            refine V_if_eq (pc := 157) (tgt := 166) dX7_tellsAtom_157 (by decide +kernel) ?_ ?_
            · refine V_aload_n (pc := 166) dX7_tellsAtom_166 rfl rfl ?_
              refine V_getr (pc := 167) (t := 1) fk_X7_9 rfl dX7_tellsAtom_167 kc_52 rf_7_0_52 ?_
              refine V_bipush (pc := 170) dX7_tellsAtom_170 bp_62 ?_
              refine V_callVpi (pc := 172) (As := [.int (62 : Int32)]) (rest := []) (c_X9_isSign w (62 : Int32) q140.2) cw_X7_75 rfl rfl dX7_tellsAtom_172 kc_1 ci_9 ⟨by simp only [mr_X7_tellsAtom, m_X9_isSign]; omega, by simp only [mr_X7_tellsAtom, m_X9_isSign]; omega⟩ rfl rfl (Nat.le_of_ble_eq_true rfl) (Nat.le_of_ble_eq_true rfl) (Nat.le_of_ble_eq_true rfl) rfl (fun q172 => ?_)
              refine V_if_eq (pc := 175) (tgt := 184) dX7_tellsAtom_175 (by decide +kernel) ?_ ?_
              · refine V_iconst (pc := 184) dX7_tellsAtom_184 ic_m1 ?_
                refine V_sub (vs' := [some (.ref (wB w + 52)), some (.ref (wB w + h1)), none, none, none, none, none]) (show vless _ _ from ⟨rfl, ⟨rfl, trivial⟩⟩) rfl ?_
                exact hJ185 (-1 : Int32) q140.2
              · refine V_sipush (pc := 178) dX7_tellsAtom_178 sp_2005 ?_
                refine V_goto (pc := 181) (tgt := 185) dX7_tellsAtom_181 (by decide +kernel) ?_
                refine V_sub (vs' := [some (.ref (wB w + 52)), some (.ref (wB w + h1)), none, none, none, none, none]) (show vless _ _ from ⟨rfl, ⟨rfl, trivial⟩⟩) rfl ?_
                exact hJ185 (2005 : Int32) q140.2
            · refine V_sipush (pc := 160) dX7_tellsAtom_160 sp_2004 ?_
              refine V_goto (pc := 163) (tgt := 185) dX7_tellsAtom_163 (by decide +kernel) ?_
              refine V_sub (vs' := [some (.ref (wB w + 52)), some (.ref (wB w + h1)), none, none, none, none, none]) (show vless _ _ from ⟨rfl, ⟨rfl, trivial⟩⟩) rfl ?_
              exact hJ185 (2004 : Int32) q140.2
          · refine V_iconst (pc := 146) dX7_tellsAtom_146 ic_0 ?_
            exact V_iretz (pc := 147) dX7_tellsAtom_147 rfl rfl (hk := fun h => h)
        · refine V_aload_n (pc := 119) dX7_tellsAtom_119 rfl rfl ?_
          refine V_sipush (pc := 120) dX7_tellsAtom_120 sp_1006 ?_
          refine V_iload (pc := 123) dX7_tellsAtom_123 rfl ?_
          refine V_iadd (pc := 125) dX7_tellsAtom_125 ?_
          refine V_callVv (pc := 126) (As := [.int ((1006 : Int32) + q108)]) (rest := []) (c_X6_addStep w h1 ((1006 : Int32) + q108) k_h1 σ) cw_X7_65 rfl rfl dX7_tellsAtom_126 k_h1 ci_6 ⟨by simp only [mr_X7_tellsAtom, m_X6_addStep]; omega, by simp only [mr_X7_tellsAtom, m_X6_addStep]; omega⟩ rfl rfl (Nat.le_of_ble_eq_true rfl) (Nat.le_of_ble_eq_true rfl) (Nat.le_of_ble_eq_true rfl) rfl (fun q126 => ?_)
          refine V_aload_n (pc := 129) dX7_tellsAtom_129 rfl rfl ?_
          refine V_getr (pc := 130) (t := 1) fk_X7_9 rfl dX7_tellsAtom_130 kc_52 rf_7_0_52 ?_
          refine V_callVv (pc := 133) (As := []) (rest := []) (c_X9_advance w n  q126.2) cw_X7_41 rfl rfl dX7_tellsAtom_133 kc_1 ci_9 ⟨by simp only [mr_X7_tellsAtom, m_X9_advance]; omega, by simp only [mr_X7_tellsAtom, m_X9_advance]; omega⟩ rfl rfl (Nat.le_of_ble_eq_true rfl) (Nat.le_of_ble_eq_true rfl) (Nat.le_of_ble_eq_true rfl) rfl (fun q133 => ?_)
          refine V_iconst (pc := 136) dX7_tellsAtom_136 ic_1 ?_
          exact V_iretz (pc := 137) dX7_tellsAtom_137 rfl rfl (hk := fun h => h)
      · exact hJ34 t0 σ
  refine V_aload_n (pc := 0) dX7_tellsAtom_0 rfl rfl ?_
  refine V_getr (pc := 1) (t := 1) fk_X7_9 rfl dX7_tellsAtom_1 kc_52 rf_7_0_52 ?_
  refine V_ldcS (pc := 4) (i := 30) (tx := "not") dX7_tellsAtom_4 rfl (show (RX7, 73, "not", 30) ∈ strT from by decide +kernel) ?_
  refine V_callVpi (pc := 6) (As := [.ref (wS w 30)]) (rest := []) (c_X9_wordAmong w n 30 (by decide) σ) cw_X7_37 rfl rfl dX7_tellsAtom_6 kc_1 ci_9 ⟨by simp only [mr_X7_tellsAtom, m_X9_wordAmong]; omega, by simp only [mr_X7_tellsAtom, m_X9_wordAmong]; omega⟩ rfl rfl (Nat.le_of_ble_eq_true rfl) (Nat.le_of_ble_eq_true rfl) (Nat.le_of_ble_eq_true rfl) rfl (fun q6 => ?_)
  refine V_if_ne (pc := 9) (tgt := 16) dX7_tellsAtom_9 (by decide +kernel) ?_ ?_
  · refine V_iconst (pc := 16) dX7_tellsAtom_16 ic_0 ?_
    exact hJ17 (0 : Int32) σ
  · refine V_iconst (pc := 12) dX7_tellsAtom_12 ic_1 ?_
    refine V_goto (pc := 13) (tgt := 17) dX7_tellsAtom_13 (by decide +kernel) ?_
    exact hJ17 (1 : Int32) σ
set_option maxRecDepth 20000 in
set_option maxHeartbeats 2000000 in
theorem cst_X7_tellsCondition (n d : Nat) (r : RT_gt) (ih : IH_gt d r) (w : TG) (h1 : Nat) (p2 : Int32) (k_h1 : kd h1 = 6) (σ : MS) : MC (mr_X7_tellsCondition (d + 1)) w [.ref (wB w + 52), .ref (wB w + h1), .int p2] σ (F_X7_tellsCondition r n h1 p2 σ) := by
  refine V_meth (show plainName RX7 = true from by decide +kernel) (Nat.le_of_ble_eq_true rfl) (by intro v hv; simp only [List.mem_cons, List.not_mem_nil, or_false] at hv; rcases hv with rfl | rfl | rfl <;> rfl) (fun g x => ?_)
  show VV (mr_X7_tellsCondition (d + 1)) w g 0 0 (QM (mr_X7_tellsCondition (d + 1)) w g x) (fun b : Int32 × MS => b = x) 0 [some (.ref (wB w + 52)), some (.ref (wB w + h1)), some (.int p2), none, none, none] [] σ (F_X7_tellsCondition r n h1 p2 σ)
  have hL8 : ∀  (n0 : Nat) (a : Int32 × Int32 × Int32 × MS), VV (mr_X7_tellsCondition (d + 1)) w g 0 0 (QM (mr_X7_tellsCondition (d + 1)) w g x) (fun b : Int32 × MS => b = x) 8 [some (.ref (wB w + 52)), some (.ref (wB w + h1)), some (.int p2), some (.int a.1), some (.int a.2.1), some (.int a.2.2.1)] [] a.2.2.2 (itr (L_X7_tellsCondition_8 r n h1 p2 σ) n0 a) := by
    refine V_itr (vf := fun a : Int32 × Int32 × Int32 × MS => [some (.ref (wB w + 52)), some (.ref (wB w + h1)), some (.int p2), some (.int a.1), some (.int a.2.1), some (.int a.2.2.1)]) (sf := fun a : Int32 × Int32 × Int32 × MS => a.2.2.2) (fun κ8 b8 r8 a8 => ?_)
    obtain ⟨a8_1, a8_2, a8_3, a8_4⟩ := a8
    show VV (mr_X7_tellsCondition (d + 1)) w g 0 0 (QM (mr_X7_tellsCondition (d + 1)) w g x) κ8 8 [some (.ref (wB w + 52)), some (.ref (wB w + h1)), some (.int p2), some (.int a8_1), some (.int a8_2), some (.int a8_3)] [] a8_4 (L_X7_tellsCondition_8 r n h1 p2 σ (a8_1, a8_2, a8_3, a8_4))
    have hJ85 : ∀ (v3 : Int32) (v4 : Int32) (v5 : Int32) (σ : MS), VV (mr_X7_tellsCondition (d + 1)) w g 0 0 (QM (mr_X7_tellsCondition (d + 1)) w g x) κ8 85 [some (.ref (wB w + 52)), some (.ref (wB w + h1)), some (.int p2), some (.int v3), some (.int v4), some (.int v5)] [] σ (J_X7_tellsCondition_85 r n h1 p2 v3 v4 v5 σ) := by
      intro v3 v4 v5 σ
      refine V_iincC (pc := 85) (vs' := [some (.ref (wB w + 52)), some (.ref (wB w + h1)), some (.int p2), some (.int v3), some (.int v4), some (.int (v5 + (1 : Int32)))]) dX7_tellsCondition_85 (Nat.le_of_ble_eq_true rfl) rfl ic_1 rfl ?_
      refine V_goto (pc := 88) (tgt := 8) dX7_tellsCondition_88 (by decide +kernel) ?_
      exact V_back (b8 (v3, v4, (v5 + (1 : Int32)), σ))
    have hJ69 : ∀ (v4 : Int32) (v5 : Int32) (σ : MS), VV (mr_X7_tellsCondition (d + 1)) w g 0 0 (QM (mr_X7_tellsCondition (d + 1)) w g x) κ8 69 [some (.ref (wB w + 52)), some (.ref (wB w + h1)), some (.int p2), none, some (.int v4), some (.int v5)] [] σ (J_X7_tellsCondition_69 r n h1 p2 v4 v5 σ) := by
      intro v4 v5 σ
      refine V_aload_n (pc := 69) dX7_tellsCondition_69 rfl rfl ?_
      refine V_getr (pc := 70) (t := 1) fk_X7_9 rfl dX7_tellsCondition_70 kc_52 rf_7_0_52 ?_
      refine V_ldcS (pc := 73) (i := 29) (tx := "or") dX7_tellsCondition_73 rfl (show (RX7, 71, "or", 29) ∈ strT from by decide +kernel) ?_
      refine V_callVi (pc := 75) (As := [.ref (wS w 29)]) (rest := []) (c_X9_skipWord w n 29 (by decide) σ) cw_X7_50 rfl rfl dX7_tellsCondition_75 kc_1 ci_9 ⟨by simp only [mr_X7_tellsCondition, m_X9_skipWord]; omega, by simp only [mr_X7_tellsCondition, m_X9_skipWord]; omega⟩ rfl rfl (Nat.le_of_ble_eq_true rfl) (Nat.le_of_ble_eq_true rfl) (Nat.le_of_ble_eq_true rfl) rfl (fun q75 => ?_)
      refine V_istore_n (pc := 78) (vs' := [some (.ref (wB w + 52)), some (.ref (wB w + h1)), some (.int p2), some (.int q75.1), some (.int v4), some (.int v5)]) dX7_tellsCondition_78 rfl (Nat.le_of_ble_eq_true rfl) (Nat.le_of_ble_eq_true rfl) rfl ?_
      refine V_iload_n (pc := 79) dX7_tellsCondition_79 rfl rfl ?_
      refine V_if_ne (pc := 80) (tgt := 85) dX7_tellsCondition_80 (by decide +kernel) ?_ ?_
      · exact hJ85 q75.1 v4 v5 q75.2
      · refine V_exit r8 ?_
        refine V_iconst (pc := 83) dX7_tellsCondition_83 ic_1 ?_
        exact V_iretz (pc := 84) dX7_tellsCondition_84 rfl rfl (hk := fun h => h)
    have hJ39 : ∀ (v3 : Int32) (v5 : Int32) (σ : MS), VV (mr_X7_tellsCondition (d + 1)) w g 0 0 (QM (mr_X7_tellsCondition (d + 1)) w g x) κ8 39 [some (.ref (wB w + 52)), some (.ref (wB w + h1)), some (.int p2), some (.int v3), none, some (.int v5)] [] σ (J_X7_tellsCondition_39 r n h1 p2 v3 v5 σ) := by
      intro v3 v5 σ
      refine V_aload_n (pc := 39) dX7_tellsCondition_39 rfl rfl ?_
      refine V_getr (pc := 40) (t := 1) fk_X7_9 rfl dX7_tellsCondition_40 kc_52 rf_7_0_52 ?_
      refine V_ldcS (pc := 43) (i := 28) (tx := "and") dX7_tellsCondition_43 rfl (show (RX7, 69, "and", 28) ∈ strT from by decide +kernel) ?_
      refine V_callVi (pc := 45) (As := [.ref (wS w 28)]) (rest := []) (c_X9_skipWord w n 28 (by decide) σ) cw_X7_50 rfl rfl dX7_tellsCondition_45 kc_1 ci_9 ⟨by simp only [mr_X7_tellsCondition, m_X9_skipWord]; omega, by simp only [mr_X7_tellsCondition, m_X9_skipWord]; omega⟩ rfl rfl (Nat.le_of_ble_eq_true rfl) (Nat.le_of_ble_eq_true rfl) (Nat.le_of_ble_eq_true rfl) rfl (fun q45 => ?_)
      refine V_istore (pc := 48) (vs' := [some (.ref (wB w + 52)), some (.ref (wB w + h1)), some (.int p2), some (.int v3), some (.int q45.1), some (.int v5)]) dX7_tellsCondition_48 (Nat.le_of_ble_eq_true rfl) (Nat.le_of_ble_eq_true rfl) rfl ?_
      refine V_iload (pc := 50) dX7_tellsCondition_50 rfl ?_
      refine V_if_eq (pc := 52) (tgt := 58) dX7_tellsCondition_52 (by decide +kernel) ?_ ?_
      · refine V_iload_n (pc := 58) dX7_tellsCondition_58 rfl rfl ?_
        refine V_if_eq (pc := 59) (tgt := 69) dX7_tellsCondition_59 (by decide +kernel) ?_ ?_
        · refine V_sub (vs' := [some (.ref (wB w + 52)), some (.ref (wB w + h1)), some (.int p2), none, some (.int q45.1), some (.int v5)]) (show vless _ _ from ⟨rfl, ⟨rfl, ⟨rfl, ⟨rfl, ⟨rfl, trivial⟩⟩⟩⟩⟩) rfl ?_
          exact hJ69 q45.1 v5 q45.2
        · refine V_aload_n (pc := 62) dX7_tellsCondition_62 rfl rfl ?_
          refine V_sipush (pc := 63) dX7_tellsCondition_63 sp_2002 ?_
          refine V_callVv (pc := 66) (As := [.int (2002 : Int32)]) (rest := []) (c_X6_addStep w h1 (2002 : Int32) k_h1 q45.2) cw_X7_65 rfl rfl dX7_tellsCondition_66 k_h1 ci_6 ⟨by simp only [mr_X7_tellsCondition, m_X6_addStep]; omega, by simp only [mr_X7_tellsCondition, m_X6_addStep]; omega⟩ rfl rfl (Nat.le_of_ble_eq_true rfl) (Nat.le_of_ble_eq_true rfl) (Nat.le_of_ble_eq_true rfl) rfl (fun q66 => ?_)
          refine V_sub (vs' := [some (.ref (wB w + 52)), some (.ref (wB w + h1)), some (.int p2), none, some (.int q45.1), some (.int v5)]) (show vless _ _ from ⟨rfl, ⟨rfl, ⟨rfl, ⟨rfl, ⟨rfl, trivial⟩⟩⟩⟩⟩) rfl ?_
          exact hJ69 q45.1 v5 q66.2
      · refine V_goto (pc := 55) (tgt := 85) dX7_tellsCondition_55 (by decide +kernel) ?_
        exact hJ85 v3 q45.1 v5 q45.2
    refine V_iload (pc := 8) dX7_tellsCondition_8 rfl ?_
    refine V_sipush (pc := 10) dX7_tellsCondition_10 sp_400 ?_
    refine V_icmp_ge (pc := 13) (tgt := 91) dX7_tellsCondition_13 (by decide +kernel) ?_ ?_
    · refine V_exit r8 ?_
      refine V_iconst (pc := 91) dX7_tellsCondition_91 ic_0 ?_
      exact V_iretz (pc := 92) dX7_tellsCondition_92 rfl rfl (hk := fun h => h)
    · refine V_aload_n (pc := 16) dX7_tellsCondition_16 rfl rfl ?_
      refine V_aload_n (pc := 17) dX7_tellsCondition_17 rfl rfl ?_
      refine V_iload_n (pc := 18) dX7_tellsCondition_18 rfl rfl ?_
      refine V_callVi (pc := 19) (As := [.ref (wB w + h1), .int p2]) (rest := []) (ih.1 w h1 p2 k_h1 a8_4) cw_X7_62 rfl rfl dX7_tellsCondition_19 kc_52 ci_7 ⟨by simp only [mr_X7_tellsCondition, mr_X7_tellsAtom]; omega, by simp only [mr_X7_tellsCondition, mr_X7_tellsAtom]; omega⟩ rfl rfl (Nat.le_of_ble_eq_true rfl) (Nat.le_of_ble_eq_true rfl) (Nat.le_of_ble_eq_true rfl) rfl (fun q19 => ?_)
      refine V_if_ne (pc := 22) (tgt := 27) dX7_tellsCondition_22 (by decide +kernel) ?_ ?_
      · refine V_iload (pc := 27) dX7_tellsCondition_27 rfl ?_
        refine V_if_eq (pc := 29) (tgt := 39) dX7_tellsCondition_29 (by decide +kernel) ?_ ?_
        · refine V_sub (vs' := [some (.ref (wB w + 52)), some (.ref (wB w + h1)), some (.int p2), some (.int a8_1), none, some (.int a8_3)]) (show vless _ _ from ⟨rfl, ⟨rfl, ⟨rfl, ⟨rfl, ⟨rfl, trivial⟩⟩⟩⟩⟩) rfl ?_
          exact hJ39 a8_1 a8_3 q19.2
        · refine V_aload_n (pc := 32) dX7_tellsCondition_32 rfl rfl ?_
          refine V_sipush (pc := 33) dX7_tellsCondition_33 sp_2001 ?_
          refine V_callVv (pc := 36) (As := [.int (2001 : Int32)]) (rest := []) (c_X6_addStep w h1 (2001 : Int32) k_h1 q19.2) cw_X7_65 rfl rfl dX7_tellsCondition_36 k_h1 ci_6 ⟨by simp only [mr_X7_tellsCondition, m_X6_addStep]; omega, by simp only [mr_X7_tellsCondition, m_X6_addStep]; omega⟩ rfl rfl (Nat.le_of_ble_eq_true rfl) (Nat.le_of_ble_eq_true rfl) (Nat.le_of_ble_eq_true rfl) rfl (fun q36 => ?_)
          refine V_sub (vs' := [some (.ref (wB w + 52)), some (.ref (wB w + h1)), some (.int p2), some (.int a8_1), none, some (.int a8_3)]) (show vless _ _ from ⟨rfl, ⟨rfl, ⟨rfl, ⟨rfl, ⟨rfl, trivial⟩⟩⟩⟩⟩) rfl ?_
          exact hJ39 a8_1 a8_3 q36.2
      · refine V_exit r8 ?_
        refine V_iconst (pc := 25) dX7_tellsCondition_25 ic_0 ?_
        exact V_iretz (pc := 26) dX7_tellsCondition_26 rfl rfl (hk := fun h => h)
  refine V_iconst (pc := 0) dX7_tellsCondition_0 ic_0 ?_
  refine V_istore_n (pc := 1) (vs' := [some (.ref (wB w + 52)), some (.ref (wB w + h1)), some (.int p2), some (.int (0 : Int32)), none, none]) dX7_tellsCondition_1 rfl (Nat.le_of_ble_eq_true rfl) (Nat.le_of_ble_eq_true rfl) rfl ?_
  refine V_iconst (pc := 2) dX7_tellsCondition_2 ic_0 ?_
  refine V_istore (pc := 3) (vs' := [some (.ref (wB w + 52)), some (.ref (wB w + h1)), some (.int p2), some (.int (0 : Int32)), some (.int (0 : Int32)), none]) dX7_tellsCondition_3 (Nat.le_of_ble_eq_true rfl) (Nat.le_of_ble_eq_true rfl) rfl ?_
  refine V_iconst (pc := 5) dX7_tellsCondition_5 ic_0 ?_
  refine V_istore (pc := 6) (vs' := [some (.ref (wB w + 52)), some (.ref (wB w + h1)), some (.int p2), some (.int (0 : Int32)), some (.int (0 : Int32)), some (.int (0 : Int32))]) dX7_tellsCondition_6 (Nat.le_of_ble_eq_true rfl) (Nat.le_of_ble_eq_true rfl) rfl ?_
  exact hL8 n ((0 : Int32), (0 : Int32), (0 : Int32), σ)
def G_gt (n : Nat) : Nat → RT_gt
  | 0 => ((fun _ _ _ => none), (fun _ _ _ => none))
  | d + 1 => (F_X7_tellsAtom (G_gt n d) n, F_X7_tellsCondition (G_gt n d) n)
theorem cg_gt (n : Nat) : ∀ d, IH_gt d (G_gt n d) := by
  intro d
  induction d with
  | zero =>
    unfold IH_gt
    exact ⟨(fun _ _ _ _ _ _ _ _ h => by cases h), (fun _ _ _ _ _ _ _ _ h => by cases h)⟩
  | succ d ih =>
    unfold IH_gt
    exact ⟨cst_X7_tellsAtom n d _ ih, cst_X7_tellsCondition n d _ ih⟩
def f_X7_tellsAtom (n : Nat) (h1 : Nat) (p2 : Int32) (σ : MS) : Option (Int32 × MS) := (G_gt n 30).1 h1 p2 σ
theorem c_X7_tellsAtom (w : TG) (n : Nat) (h1 : Nat) (p2 : Int32) (k_h1 : kd h1 = 6) (σ : MS) : MC m_X7_tellsAtom w [.ref (wB w + 52), .ref (wB w + h1), .int p2] σ (f_X7_tellsAtom n h1 p2 σ) := (cg_gt n 30).1 w h1 p2 k_h1 σ
def f_X7_tellsCondition (n : Nat) (h1 : Nat) (p2 : Int32) (σ : MS) : Option (Int32 × MS) := (G_gt n 30).2 h1 p2 σ
theorem c_X7_tellsCondition (w : TG) (n : Nat) (h1 : Nat) (p2 : Int32) (k_h1 : kd h1 = 6) (σ : MS) : MC m_X7_tellsCondition w [.ref (wB w + 52), .ref (wB w + h1), .int p2] σ (f_X7_tellsCondition n h1 p2 σ) := (cg_gt n 30).2 w h1 p2 k_h1 σ
def J_X7_tellsLine_72 (n : Nat) (h1 : Nat) (v2 : Int32) (v3 : Int32) (σ : MS) : Option (Int32 × MS) := ((f_X6_addLine h1 v2 v3 σ).bind (fun q75 => some ((1 : Int32), q75.2)))
def f_X7_tellsLine (n : Nat) (h1 : Nat) (σ : MS) : Option (Int32 × MS) := ((f_X9_wordAmong n 26 σ).bind (fun q6 => (if q6 = (-1 : Int32) then some ((0 : Int32), σ) else ((f_X9_advance n  σ).bind (fun q21 => ((f_X9_number n (0 : Int32) (99 : Int32) q21.2).bind (fun q31 => (if q31 = (-1 : Int32) then some ((0 : Int32), q21.2) else ((f_X9_advance n  q21.2).bind (fun q46 => ((f_X9_skipWord n 27 q46.2).bind (fun q55 => (if q55.1 = 0 then J_X7_tellsLine_72 n h1 q6 q31 q55.2 else ((f_X7_tellsCondition n h1 (0 : Int32) q55.2).bind (fun q64 => (if q64.1 = 0 then some ((0 : Int32), q64.2) else J_X7_tellsLine_72 n h1 q6 q31 q64.2))))))))))))))))
set_option maxRecDepth 20000 in
set_option maxHeartbeats 2000000 in
theorem c_X7_tellsLine (w : TG) (n : Nat) (h1 : Nat) (k_h1 : kd h1 = 6) (σ : MS) : MC m_X7_tellsLine w [.ref (wB w + 52), .ref (wB w + h1)] σ (f_X7_tellsLine n h1 σ) := by
  refine V_meth (by decide +kernel) (Nat.le_of_ble_eq_true rfl) (by intro v hv; simp only [List.mem_cons, List.not_mem_nil, or_false] at hv; rcases hv with rfl | rfl <;> rfl) (fun g x => ?_)
  show VV m_X7_tellsLine w g 0 0 (QM m_X7_tellsLine w g x) (fun b : Int32 × MS => b = x) 0 [some (.ref (wB w + 52)), some (.ref (wB w + h1)), none, none] [] σ (f_X7_tellsLine n h1 σ)
  have hJ72 : ∀ (v2 : Int32) (v3 : Int32) (σ : MS), VV m_X7_tellsLine w g 0 0 (QM m_X7_tellsLine w g x) (fun b : Int32 × MS => b = x) 72 [none, some (.ref (wB w + h1)), some (.int v2), some (.int v3)] [] σ (J_X7_tellsLine_72 n h1 v2 v3 σ) := by
    intro v2 v3 σ
    refine V_aload_n (pc := 72) dX7_tellsLine_72 rfl rfl ?_
    refine V_iload_n (pc := 73) dX7_tellsLine_73 rfl rfl ?_
    refine V_iload_n (pc := 74) dX7_tellsLine_74 rfl rfl ?_
    refine V_callVv (pc := 75) (As := [.int v2, .int v3]) (rest := []) (c_X6_addLine w h1 v2 v3 k_h1 σ) cw_X7_58 rfl rfl dX7_tellsLine_75 k_h1 ci_6 ⟨Nat.le_of_ble_eq_true rfl, Nat.le_of_ble_eq_true rfl⟩ rfl rfl (Nat.le_of_ble_eq_true rfl) (Nat.le_of_ble_eq_true rfl) (Nat.le_of_ble_eq_true rfl) rfl (fun q75 => ?_)
    refine V_iconst (pc := 78) dX7_tellsLine_78 ic_1 ?_
    exact V_iretz (pc := 79) dX7_tellsLine_79 rfl rfl (hk := fun h => h)
  refine V_aload_n (pc := 0) dX7_tellsLine_0 rfl rfl ?_
  refine V_getr (pc := 1) (t := 1) fk_X7_9 rfl dX7_tellsLine_1 kc_52 rf_7_0_52 ?_
  refine V_ldcS (pc := 4) (i := 26) (tx := "bind last suspect") dX7_tellsLine_4 rfl (show (RX7, 35, "bind last suspect", 26) ∈ strT from by decide +kernel) ?_
  refine V_callVpi (pc := 6) (As := [.ref (wS w 26)]) (rest := []) (c_X9_wordAmong w n 26 (by decide) σ) cw_X7_37 rfl rfl dX7_tellsLine_6 kc_1 ci_9 ⟨Nat.le_of_ble_eq_true rfl, Nat.le_of_ble_eq_true rfl⟩ rfl rfl (Nat.le_of_ble_eq_true rfl) (Nat.le_of_ble_eq_true rfl) (Nat.le_of_ble_eq_true rfl) rfl (fun q6 => ?_)
  refine V_istore_n (pc := 9) (vs' := [some (.ref (wB w + 52)), some (.ref (wB w + h1)), some (.int q6), none]) dX7_tellsLine_9 rfl (Nat.le_of_ble_eq_true rfl) (Nat.le_of_ble_eq_true rfl) rfl ?_
  refine V_iload_n (pc := 10) dX7_tellsLine_10 rfl rfl ?_
  refine V_iconst (pc := 11) dX7_tellsLine_11 ic_m1 ?_
  refine V_icmp_ne (pc := 12) (tgt := 17) dX7_tellsLine_12 (by decide +kernel) ?_ ?_
  · refine V_aload_n (pc := 17) dX7_tellsLine_17 rfl rfl ?_
    refine V_getr (pc := 18) (t := 1) fk_X7_9 rfl dX7_tellsLine_18 kc_52 rf_7_0_52 ?_
    refine V_callVv (pc := 21) (As := []) (rest := []) (c_X9_advance w n  σ) cw_X7_41 rfl rfl dX7_tellsLine_21 kc_1 ci_9 ⟨Nat.le_of_ble_eq_true rfl, Nat.le_of_ble_eq_true rfl⟩ rfl rfl (Nat.le_of_ble_eq_true rfl) (Nat.le_of_ble_eq_true rfl) (Nat.le_of_ble_eq_true rfl) rfl (fun q21 => ?_)
    refine V_aload_n (pc := 24) dX7_tellsLine_24 rfl rfl ?_
    refine V_getr (pc := 25) (t := 1) fk_X7_9 rfl dX7_tellsLine_25 kc_52 rf_7_0_52 ?_
    refine V_iconst (pc := 28) dX7_tellsLine_28 ic_0 ?_
    refine V_bipush (pc := 29) dX7_tellsLine_29 bp_99 ?_
    refine V_callVpi (pc := 31) (As := [.int (0 : Int32), .int (99 : Int32)]) (rest := []) (c_X9_number w n (0 : Int32) (99 : Int32) q21.2) cw_X7_44 rfl rfl dX7_tellsLine_31 kc_1 ci_9 ⟨Nat.le_of_ble_eq_true rfl, Nat.le_of_ble_eq_true rfl⟩ rfl rfl (Nat.le_of_ble_eq_true rfl) (Nat.le_of_ble_eq_true rfl) (Nat.le_of_ble_eq_true rfl) rfl (fun q31 => ?_)
    refine V_istore_n (pc := 34) (vs' := [some (.ref (wB w + 52)), some (.ref (wB w + h1)), some (.int q6), some (.int q31)]) dX7_tellsLine_34 rfl (Nat.le_of_ble_eq_true rfl) (Nat.le_of_ble_eq_true rfl) rfl ?_
    refine V_iload_n (pc := 35) dX7_tellsLine_35 rfl rfl ?_
    refine V_iconst (pc := 36) dX7_tellsLine_36 ic_m1 ?_
    refine V_icmp_ne (pc := 37) (tgt := 42) dX7_tellsLine_37 (by decide +kernel) ?_ ?_
    · refine V_aload_n (pc := 42) dX7_tellsLine_42 rfl rfl ?_
      refine V_getr (pc := 43) (t := 1) fk_X7_9 rfl dX7_tellsLine_43 kc_52 rf_7_0_52 ?_
      refine V_callVv (pc := 46) (As := []) (rest := []) (c_X9_advance w n  q21.2) cw_X7_41 rfl rfl dX7_tellsLine_46 kc_1 ci_9 ⟨Nat.le_of_ble_eq_true rfl, Nat.le_of_ble_eq_true rfl⟩ rfl rfl (Nat.le_of_ble_eq_true rfl) (Nat.le_of_ble_eq_true rfl) (Nat.le_of_ble_eq_true rfl) rfl (fun q46 => ?_)
      refine V_aload_n (pc := 49) dX7_tellsLine_49 rfl rfl ?_
      refine V_getr (pc := 50) (t := 1) fk_X7_9 rfl dX7_tellsLine_50 kc_52 rf_7_0_52 ?_
      refine V_ldcS (pc := 53) (i := 27) (tx := "if") dX7_tellsLine_53 rfl (show (RX7, 48, "if", 27) ∈ strT from by decide +kernel) ?_
      refine V_callVi (pc := 55) (As := [.ref (wS w 27)]) (rest := []) (c_X9_skipWord w n 27 (by decide) q46.2) cw_X7_50 rfl rfl dX7_tellsLine_55 kc_1 ci_9 ⟨Nat.le_of_ble_eq_true rfl, Nat.le_of_ble_eq_true rfl⟩ rfl rfl (Nat.le_of_ble_eq_true rfl) (Nat.le_of_ble_eq_true rfl) (Nat.le_of_ble_eq_true rfl) rfl (fun q55 => ?_)
      refine V_if_eq (pc := 58) (tgt := 72) dX7_tellsLine_58 (by decide +kernel) ?_ ?_
      · refine V_sub (vs' := [none, some (.ref (wB w + h1)), some (.int q6), some (.int q31)]) (show vless _ _ from ⟨rfl, ⟨rfl, ⟨rfl, trivial⟩⟩⟩) rfl ?_
        exact hJ72 q6 q31 q55.2
      · refine V_aload_n (pc := 61) dX7_tellsLine_61 rfl rfl ?_
        refine V_aload_n (pc := 62) dX7_tellsLine_62 rfl rfl ?_
        refine V_iconst (pc := 63) dX7_tellsLine_63 ic_0 ?_
        refine V_callVi (pc := 64) (As := [.ref (wB w + h1), .int (0 : Int32)]) (rest := []) (c_X7_tellsCondition w n h1 (0 : Int32) k_h1 q55.2) cw_X7_54 rfl rfl dX7_tellsLine_64 kc_52 ci_7 ⟨Nat.le_of_ble_eq_true rfl, Nat.le_of_ble_eq_true rfl⟩ rfl rfl (Nat.le_of_ble_eq_true rfl) (Nat.le_of_ble_eq_true rfl) (Nat.le_of_ble_eq_true rfl) rfl (fun q64 => ?_)
        refine V_if_ne (pc := 67) (tgt := 72) dX7_tellsLine_67 (by decide +kernel) ?_ ?_
        · refine V_sub (vs' := [none, some (.ref (wB w + h1)), some (.int q6), some (.int q31)]) (show vless _ _ from ⟨rfl, ⟨rfl, ⟨rfl, trivial⟩⟩⟩) rfl ?_
          exact hJ72 q6 q31 q64.2
        · refine V_iconst (pc := 70) dX7_tellsLine_70 ic_0 ?_
          exact V_iretz (pc := 71) dX7_tellsLine_71 rfl rfl (hk := fun h => h)
    · refine V_iconst (pc := 40) dX7_tellsLine_40 ic_0 ?_
      exact V_iretz (pc := 41) dX7_tellsLine_41 rfl rfl (hk := fun h => h)
  · refine V_iconst (pc := 15) dX7_tellsLine_15 ic_0 ?_
    exact V_iretz (pc := 16) dX7_tellsLine_16 rfl rfl (hk := fun h => h)
def L_X7_tells_25 (n : Nat) (h1 : Nat) (σ : MS) (a25 : Int32 × MS) : Option ((Int32 × MS) ⊕ (Int32 × MS)) := (if (12 : Int32) ≤ a25.1 then (some ((0 : Int32), a25.2)).map Sum.inr else ((f_X7_tellsLine n h1 a25.2).bind (fun q33 => (if q33.1 = 0 then (some ((0 : Int32), q33.2)).map Sum.inr else ((f_X9_isOver  q33.2).bind (fun q45 => (if q45 = 0 then ((f_X9_skipSign n (59 : Int32) q33.2).bind (fun q59 => (if q59.1 = 0 then (some ((0 : Int32), q59.2)).map Sum.inr else some (.inl ((a25.1 + (1 : Int32)), q59.2))))) else (some ((1 : Int32), q33.2)).map Sum.inr)))))))
def f_X7_tells (n : Nat) (h1 : Nat) (σ : MS) : Option (Int32 × MS) := ((f_X6_begin h1 σ).bind (fun q1 => ((f_X9_begin n  q1.2).bind (fun q8 => ((f_X9_isOver  q8.2).bind (fun q15 => (if q15 = 0 then itr (L_X7_tells_25 n h1 σ) n ((0 : Int32), q8.2) else some ((1 : Int32), q8.2))))))))
set_option maxRecDepth 20000 in
set_option maxHeartbeats 2000000 in
theorem c_X7_tells (w : TG) (n : Nat) (h1 : Nat) (k_h1 : kd h1 = 6) (σ : MS) : MC m_X7_tells w [.ref (wB w + 52), .ref (wB w + h1)] σ (f_X7_tells n h1 σ) := by
  refine V_meth (by decide +kernel) (Nat.le_of_ble_eq_true rfl) (by intro v hv; simp only [List.mem_cons, List.not_mem_nil, or_false] at hv; rcases hv with rfl | rfl <;> rfl) (fun g x => ?_)
  show VV m_X7_tells w g 0 0 (QM m_X7_tells w g x) (fun b : Int32 × MS => b = x) 0 [some (.ref (wB w + 52)), some (.ref (wB w + h1)), none] [] σ (f_X7_tells n h1 σ)
  have hL25 : ∀  (n0 : Nat) (a : Int32 × MS), VV m_X7_tells w g 0 0 (QM m_X7_tells w g x) (fun b : Int32 × MS => b = x) 25 [some (.ref (wB w + 52)), some (.ref (wB w + h1)), some (.int a.1)] [] a.2 (itr (L_X7_tells_25 n h1 σ) n0 a) := by
    refine V_itr (vf := fun a : Int32 × MS => [some (.ref (wB w + 52)), some (.ref (wB w + h1)), some (.int a.1)]) (sf := fun a : Int32 × MS => a.2) (fun κ25 b25 r25 a25 => ?_)
    obtain ⟨a25_1, a25_2⟩ := a25
    show VV m_X7_tells w g 0 0 (QM m_X7_tells w g x) κ25 25 [some (.ref (wB w + 52)), some (.ref (wB w + h1)), some (.int a25_1)] [] a25_2 (L_X7_tells_25 n h1 σ (a25_1, a25_2))
    refine V_iload_n (pc := 25) dX7_tells_25 rfl rfl ?_
    refine V_bipush (pc := 26) dX7_tells_26 bp_12 ?_
    refine V_icmp_ge (pc := 28) (tgt := 73) dX7_tells_28 (by decide +kernel) ?_ ?_
    · refine V_exit r25 ?_
      refine V_iconst (pc := 73) dX7_tells_73 ic_0 ?_
      exact V_iretz (pc := 74) dX7_tells_74 rfl rfl (hk := fun h => h)
    · refine V_aload_n (pc := 31) dX7_tells_31 rfl rfl ?_
      refine V_aload_n (pc := 32) dX7_tells_32 rfl rfl ?_
      refine V_callVi (pc := 33) (As := [.ref (wB w + h1)]) (rest := []) (c_X7_tellsLine w n h1 k_h1 a25_2) cw_X7_27 rfl rfl dX7_tells_33 kc_52 ci_7 ⟨Nat.le_of_ble_eq_true rfl, Nat.le_of_ble_eq_true rfl⟩ rfl rfl (Nat.le_of_ble_eq_true rfl) (Nat.le_of_ble_eq_true rfl) (Nat.le_of_ble_eq_true rfl) rfl (fun q33 => ?_)
      refine V_if_ne (pc := 36) (tgt := 41) dX7_tells_36 (by decide +kernel) ?_ ?_
      · refine V_aload_n (pc := 41) dX7_tells_41 rfl rfl ?_
        refine V_getr (pc := 42) (t := 1) fk_X7_9 rfl dX7_tells_42 kc_52 rf_7_0_52 ?_
        refine V_callVpi (pc := 45) (As := []) (rest := []) (c_X9_isOver w  q33.2) cw_X7_23 rfl rfl dX7_tells_45 kc_1 ci_9 ⟨Nat.le_of_ble_eq_true rfl, Nat.le_of_ble_eq_true rfl⟩ rfl rfl (Nat.le_of_ble_eq_true rfl) (Nat.le_of_ble_eq_true rfl) (Nat.le_of_ble_eq_true rfl) rfl (fun q45 => ?_)
        refine V_if_eq (pc := 48) (tgt := 53) dX7_tells_48 (by decide +kernel) ?_ ?_
        · refine V_aload_n (pc := 53) dX7_tells_53 rfl rfl ?_
          refine V_getr (pc := 54) (t := 1) fk_X7_9 rfl dX7_tells_54 kc_52 rf_7_0_52 ?_
          refine V_bipush (pc := 57) dX7_tells_57 bp_59 ?_
          refine V_callVi (pc := 59) (As := [.int (59 : Int32)]) (rest := []) (c_X9_skipSign w n (59 : Int32) q33.2) cw_X7_31 rfl rfl dX7_tells_59 kc_1 ci_9 ⟨Nat.le_of_ble_eq_true rfl, Nat.le_of_ble_eq_true rfl⟩ rfl rfl (Nat.le_of_ble_eq_true rfl) (Nat.le_of_ble_eq_true rfl) (Nat.le_of_ble_eq_true rfl) rfl (fun q59 => ?_)
          refine V_if_ne (pc := 62) (tgt := 67) dX7_tells_62 (by decide +kernel) ?_ ?_
          · refine V_iincC (pc := 67) (vs' := [some (.ref (wB w + 52)), some (.ref (wB w + h1)), some (.int (a25_1 + (1 : Int32)))]) dX7_tells_67 (Nat.le_of_ble_eq_true rfl) rfl ic_1 rfl ?_
            refine V_goto (pc := 70) (tgt := 25) dX7_tells_70 (by decide +kernel) ?_
            exact V_back (b25 ((a25_1 + (1 : Int32)), q59.2))
          · refine V_exit r25 ?_
            refine V_iconst (pc := 65) dX7_tells_65 ic_0 ?_
            exact V_iretz (pc := 66) dX7_tells_66 rfl rfl (hk := fun h => h)
        · refine V_exit r25 ?_
          refine V_iconst (pc := 51) dX7_tells_51 ic_1 ?_
          exact V_iretz (pc := 52) dX7_tells_52 rfl rfl (hk := fun h => h)
      · refine V_exit r25 ?_
        refine V_iconst (pc := 39) dX7_tells_39 ic_0 ?_
        exact V_iretz (pc := 40) dX7_tells_40 rfl rfl (hk := fun h => h)
  refine V_aload_n (pc := 0) dX7_tells_0 rfl rfl ?_
  refine V_callVv (pc := 1) (As := []) (rest := []) (c_X6_begin w h1 k_h1 σ) cw_X7_15 rfl rfl dX7_tells_1 k_h1 ci_6 ⟨Nat.le_of_ble_eq_true rfl, Nat.le_of_ble_eq_true rfl⟩ rfl rfl (Nat.le_of_ble_eq_true rfl) (Nat.le_of_ble_eq_true rfl) (Nat.le_of_ble_eq_true rfl) rfl (fun q1 => ?_)
  refine V_aload_n (pc := 4) dX7_tells_4 rfl rfl ?_
  refine V_getr (pc := 5) (t := 1) fk_X7_9 rfl dX7_tells_5 kc_52 rf_7_0_52 ?_
  refine V_callVv (pc := 8) (As := []) (rest := []) (c_X9_begin w n  q1.2) cw_X7_20 rfl rfl dX7_tells_8 kc_1 ci_9 ⟨Nat.le_of_ble_eq_true rfl, Nat.le_of_ble_eq_true rfl⟩ rfl rfl (Nat.le_of_ble_eq_true rfl) (Nat.le_of_ble_eq_true rfl) (Nat.le_of_ble_eq_true rfl) rfl (fun q8 => ?_)
  refine V_aload_n (pc := 11) dX7_tells_11 rfl rfl ?_
  refine V_getr (pc := 12) (t := 1) fk_X7_9 rfl dX7_tells_12 kc_52 rf_7_0_52 ?_
  refine V_callVpi (pc := 15) (As := []) (rest := []) (c_X9_isOver w  q8.2) cw_X7_23 rfl rfl dX7_tells_15 kc_1 ci_9 ⟨Nat.le_of_ble_eq_true rfl, Nat.le_of_ble_eq_true rfl⟩ rfl rfl (Nat.le_of_ble_eq_true rfl) (Nat.le_of_ble_eq_true rfl) (Nat.le_of_ble_eq_true rfl) rfl (fun q15 => ?_)
  refine V_if_eq (pc := 18) (tgt := 23) dX7_tells_18 (by decide +kernel) ?_ ?_
  · refine V_iconst (pc := 23) dX7_tells_23 ic_0 ?_
    refine V_istore_n (pc := 24) (vs' := [some (.ref (wB w + 52)), some (.ref (wB w + h1)), some (.int (0 : Int32))]) dX7_tells_24 rfl (Nat.le_of_ble_eq_true rfl) (Nat.le_of_ble_eq_true rfl) rfl ?_
    exact hL25 n ((0 : Int32), q8.2)
  · refine V_iconst (pc := 21) dX7_tells_21 ic_1 ?_
    exact V_iretz (pc := 22) dX7_tells_22 rfl rfl (hk := fun h => h)
def J_X8_gladder_75 (n : Nat) (v1 : Int32) (v3 : Int32) (v4 : Int32) (v5 : Int32) (σ : MS) : Option ((Int32 × Int32) ⊕ (Int32)) := some (.inl (v4, (v5 + (1 : Int32))))
def L_X8_gladder_34 (n : Nat) (v1 : Int32) (v3 : Int32) (σ : MS) (a34 : Int32 × Int32) : Option ((Int32 × Int32) ⊕ (Int32)) := (if (σ 3 0) ≤ a34.2 then (some a34.1).map Sum.inr else (if a34.2 = v1 then J_X8_gladder_75 n v1 v3 a34.1 a34.2 σ else ((f_X4_likingOf 3 v1 a34.2 σ).bind (fun q59 => (if q59 ≤ v3 then J_X8_gladder_75 n v1 v3 a34.1 a34.2 σ else J_X8_gladder_75 n v1 v3 (a34.1 ||| (shlI (1 : Int32) a34.2)) a34.2 σ)))))
def J_X8_gladder_27 (n : Nat) (v1 : Int32) (t0 : Int32) (σ : MS) : Option (Int32) := itr (L_X8_gladder_34 n v1 t0 σ) n ((0 : Int32), (0 : Int32))
def f_X8_gladder (n : Nat) (p1 : Int32) (σ : MS) : Option (Int32) := ((f_X4_closest n 3 p1 σ).bind (fun q5 => (if q5 = (-1 : Int32) then J_X8_gladder_27 n p1 (0 : Int32) σ else ((f_X4_likingOf 3 p1 q5 σ).bind (fun q24 => J_X8_gladder_27 n p1 q24 σ)))))
set_option maxRecDepth 20000 in
set_option maxHeartbeats 2000000 in
theorem c_X8_gladder (w : TG) (n : Nat) (p1 : Int32) (σ : MS) : MC m_X8_gladder w [.ref (wB w + 56), .int p1] σ ((f_X8_gladder n p1 σ).map (fun r => (r, σ))) := by
  refine V_methp (by decide +kernel) (Nat.le_of_ble_eq_true rfl) (by intro v hv; simp only [List.mem_cons, List.not_mem_nil, or_false] at hv; rcases hv with rfl | rfl <;> rfl) (fun g x => ?_)
  show VV m_X8_gladder w g 0 0 (QM m_X8_gladder w g x) (fun b : Int32 => (b, σ) = x) 0 [some (.ref (wB w + 56)), some (.int p1), none, none, none, none] [] σ (f_X8_gladder n p1 σ)
  have hL34 : ∀ (v3 : Int32) (n0 : Nat) (a : Int32 × Int32), VV m_X8_gladder w g 0 0 (QM m_X8_gladder w g x) (fun b : Int32 => (b, σ) = x) 34 [some (.ref (wB w + 56)), some (.int p1), none, some (.int v3), some (.int a.1), some (.int a.2)] [] σ (itr (L_X8_gladder_34 n p1 v3 σ) n0 a) := by
    intro v3
    refine V_itr (vf := fun a : Int32 × Int32 => [some (.ref (wB w + 56)), some (.int p1), none, some (.int v3), some (.int a.1), some (.int a.2)]) (sf := fun a : Int32 × Int32 => σ) (fun κ34 b34 r34 a34 => ?_)
    obtain ⟨a34_1, a34_2⟩ := a34
    show VV m_X8_gladder w g 0 0 (QM m_X8_gladder w g x) κ34 34 [some (.ref (wB w + 56)), some (.int p1), none, some (.int v3), some (.int a34_1), some (.int a34_2)] [] σ (L_X8_gladder_34 n p1 v3 σ (a34_1, a34_2))
    have hJ75 : ∀ (v4 : Int32) (v5 : Int32), VV m_X8_gladder w g 0 0 (QM m_X8_gladder w g x) κ34 75 [some (.ref (wB w + 56)), some (.int p1), none, some (.int v3), some (.int v4), some (.int v5)] [] σ (J_X8_gladder_75 n p1 v3 v4 v5 σ) := by
      intro v4 v5
      refine V_iincC (pc := 75) (vs' := [some (.ref (wB w + 56)), some (.int p1), none, some (.int v3), some (.int v4), some (.int (v5 + (1 : Int32)))]) dX8_gladder_75 (Nat.le_of_ble_eq_true rfl) rfl ic_1 rfl ?_
      refine V_goto (pc := 78) (tgt := 34) dX8_gladder_78 (by decide +kernel) ?_
      exact V_back (b34 (v4, (v5 + (1 : Int32))))
    refine V_iload (pc := 34) dX8_gladder_34 rfl ?_
    refine V_aload_n (pc := 36) dX8_gladder_36 rfl rfl ?_
    refine V_getr (pc := 37) (t := 3) fk_X8_18 rfl dX8_gladder_37 kc_56 rf_8_0_56 ?_
    refine V_geti (pc := 40) fk_X8_32 rfl dX8_gladder_40 kc_3 rf_4_0_3 ?_
    refine V_icmp_ge (pc := 43) (tgt := 81) dX8_gladder_43 (by decide +kernel) ?_ ?_
    · refine V_exit r34 ?_
      refine V_iload (pc := 81) dX8_gladder_81 rfl ?_
      exact V_ireti (pc := 83) dX8_gladder_83 rfl (hk := fun h => h)
    · refine V_iload (pc := 46) dX8_gladder_46 rfl ?_
      refine V_iload_n (pc := 48) dX8_gladder_48 rfl rfl ?_
      refine V_icmp_eq (pc := 49) (tgt := 75) dX8_gladder_49 (by decide +kernel) ?_ ?_
      · exact hJ75 a34_1 a34_2
      · refine V_aload_n (pc := 52) dX8_gladder_52 rfl rfl ?_
        refine V_getr (pc := 53) (t := 3) fk_X8_18 rfl dX8_gladder_53 kc_56 rf_8_0_56 ?_
        refine V_iload_n (pc := 56) dX8_gladder_56 rfl rfl ?_
        refine V_iload (pc := 57) dX8_gladder_57 rfl ?_
        refine V_callVpi (pc := 59) (As := [.int p1, .int a34_2]) (rest := []) (c_X4_likingOf w 3 p1 a34_2 kc_3 σ) cw_X8_28 rfl rfl dX8_gladder_59 kc_3 ci_4 ⟨Nat.le_of_ble_eq_true rfl, Nat.le_of_ble_eq_true rfl⟩ rfl rfl (Nat.le_of_ble_eq_true rfl) (Nat.le_of_ble_eq_true rfl) (Nat.le_of_ble_eq_true rfl) rfl (fun q59 => ?_)
        refine V_iload_n (pc := 62) dX8_gladder_62 rfl rfl ?_
        refine V_icmp_le (pc := 63) (tgt := 75) dX8_gladder_63 (by decide +kernel) ?_ ?_
        · exact hJ75 a34_1 a34_2
        · refine V_iload (pc := 66) dX8_gladder_66 rfl ?_
          refine V_iconst (pc := 68) dX8_gladder_68 ic_1 ?_
          refine V_iload (pc := 69) dX8_gladder_69 rfl ?_
          refine V_ishl (pc := 71) dX8_gladder_71 ?_
          refine V_ior (pc := 72) dX8_gladder_72 ?_
          refine V_istore (pc := 73) (vs' := [some (.ref (wB w + 56)), some (.int p1), none, some (.int v3), some (.int (a34_1 ||| (shlI (1 : Int32) a34_2))), some (.int a34_2)]) dX8_gladder_73 (Nat.le_of_ble_eq_true rfl) (Nat.le_of_ble_eq_true rfl) rfl ?_
          exact hJ75 (a34_1 ||| (shlI (1 : Int32) a34_2)) a34_2
  have hJ27 : ∀ (t0 : Int32), VV m_X8_gladder w g 0 0 (QM m_X8_gladder w g x) (fun b : Int32 => (b, σ) = x) 27 [some (.ref (wB w + 56)), some (.int p1), none, none, none, none] [.int t0] σ (J_X8_gladder_27 n p1 t0 σ) := by
    intro t0
    refine V_istore_n (pc := 27) (vs' := [some (.ref (wB w + 56)), some (.int p1), none, some (.int t0), none, none]) dX8_gladder_27 rfl (Nat.le_of_ble_eq_true rfl) (Nat.le_of_ble_eq_true rfl) rfl ?_
    refine V_iconst (pc := 28) dX8_gladder_28 ic_0 ?_
    refine V_istore (pc := 29) (vs' := [some (.ref (wB w + 56)), some (.int p1), none, some (.int t0), some (.int (0 : Int32)), none]) dX8_gladder_29 (Nat.le_of_ble_eq_true rfl) (Nat.le_of_ble_eq_true rfl) rfl ?_
    refine V_iconst (pc := 31) dX8_gladder_31 ic_0 ?_
    refine V_istore (pc := 32) (vs' := [some (.ref (wB w + 56)), some (.int p1), none, some (.int t0), some (.int (0 : Int32)), some (.int (0 : Int32))]) dX8_gladder_32 (Nat.le_of_ble_eq_true rfl) (Nat.le_of_ble_eq_true rfl) rfl ?_
    exact hL34 t0 n ((0 : Int32), (0 : Int32))
  refine V_aload_n (pc := 0) dX8_gladder_0 rfl rfl ?_
  refine V_getr (pc := 1) (t := 3) fk_X8_18 rfl dX8_gladder_1 kc_56 rf_8_0_56 ?_
  refine V_iload_n (pc := 4) dX8_gladder_4 rfl rfl ?_
  refine V_callVpi (pc := 5) (As := [.int p1]) (rest := []) (c_X4_closest w n 3 p1 kc_3 σ) cw_X8_22 rfl rfl dX8_gladder_5 kc_3 ci_4 ⟨Nat.le_of_ble_eq_true rfl, Nat.le_of_ble_eq_true rfl⟩ rfl rfl (Nat.le_of_ble_eq_true rfl) (Nat.le_of_ble_eq_true rfl) (Nat.le_of_ble_eq_true rfl) rfl (fun q5 => ?_)
  refine V_istore_n (pc := 8) (vs' := [some (.ref (wB w + 56)), some (.int p1), some (.int q5), none, none, none]) dX8_gladder_8 rfl (Nat.le_of_ble_eq_true rfl) (Nat.le_of_ble_eq_true rfl) rfl ?_
  refine V_iload_n (pc := 9) dX8_gladder_9 rfl rfl ?_
  refine V_iconst (pc := 10) dX8_gladder_10 ic_m1 ?_
  refine V_icmp_ne (pc := 11) (tgt := 18) dX8_gladder_11 (by decide +kernel) ?_ ?_
  · refine V_aload_n (pc := 18) dX8_gladder_18 rfl rfl ?_
    refine V_getr (pc := 19) (t := 3) fk_X8_18 rfl dX8_gladder_19 kc_56 rf_8_0_56 ?_
    refine V_iload_n (pc := 22) dX8_gladder_22 rfl rfl ?_
    refine V_iload_n (pc := 23) dX8_gladder_23 rfl rfl ?_
    refine V_callVpi (pc := 24) (As := [.int p1, .int q5]) (rest := []) (c_X4_likingOf w 3 p1 q5 kc_3 σ) cw_X8_28 rfl rfl dX8_gladder_24 kc_3 ci_4 ⟨Nat.le_of_ble_eq_true rfl, Nat.le_of_ble_eq_true rfl⟩ rfl rfl (Nat.le_of_ble_eq_true rfl) (Nat.le_of_ble_eq_true rfl) (Nat.le_of_ble_eq_true rfl) rfl (fun q24 => ?_)
    refine V_sub (vs' := [some (.ref (wB w + 56)), some (.int p1), none, none, none, none]) (show vless _ _ from ⟨rfl, ⟨rfl, trivial⟩⟩) rfl ?_
    exact hJ27 q24
  · refine V_iconst (pc := 14) dX8_gladder_14 ic_0 ?_
    refine V_goto (pc := 15) (tgt := 27) dX8_gladder_15 (by decide +kernel) ?_
    refine V_sub (vs' := [some (.ref (wB w + 56)), some (.int p1), none, none, none, none]) (show vless _ _ from ⟨rfl, ⟨rfl, trivial⟩⟩) rfl ?_
    exact hJ27 (0 : Int32)
def J_X8_areLovers_29 (n : Nat) (t0 : Int32) (σ : MS) : Option (Int32) := (if t0 = 0 ∨ t0 = 1 then some t0 else none)
def J_X8_areLovers_28 (n : Nat)  (σ : MS) : Option (Int32) := J_X8_areLovers_29 n (0 : Int32) σ
def f_X8_areLovers (n : Nat) (p1 : Int32) (p2 : Int32) (σ : MS) : Option (Int32) := ((f_X8_gladder n p1 σ).bind (fun q2 => (if (q2 &&& (shlI (1 : Int32) p2)) = 0 then J_X8_areLovers_28 n  σ else ((f_X8_gladder n p2 σ).bind (fun q14 => (if (q14 &&& (shlI (1 : Int32) p1)) = 0 then J_X8_areLovers_28 n  σ else J_X8_areLovers_29 n (1 : Int32) σ))))))
set_option maxRecDepth 20000 in
set_option maxHeartbeats 2000000 in
theorem c_X8_areLovers (w : TG) (n : Nat) (p1 : Int32) (p2 : Int32) (σ : MS) : MC m_X8_areLovers w [.ref (wB w + 56), .int p1, .int p2] σ ((f_X8_areLovers n p1 p2 σ).map (fun r => (r, σ))) := by
  refine V_methp (by decide +kernel) (Nat.le_of_ble_eq_true rfl) (by intro v hv; simp only [List.mem_cons, List.not_mem_nil, or_false] at hv; rcases hv with rfl | rfl | rfl <;> rfl) (fun g x => ?_)
  show VV m_X8_areLovers w g 0 0 (QM m_X8_areLovers w g x) (fun b : Int32 => (b, σ) = x) 0 [some (.ref (wB w + 56)), some (.int p1), some (.int p2)] [] σ (f_X8_areLovers n p1 p2 σ)
  have hJ29 : ∀ (t0 : Int32), VV m_X8_areLovers w g 0 0 (QM m_X8_areLovers w g x) (fun b : Int32 => (b, σ) = x) 29 [none, none, none] [.int t0] σ (J_X8_areLovers_29 n t0 σ) := by
    intro t0
    exact V_iretZ (pc := 29) dX8_areLovers_29 rfl (hk := fun h => h)
  have hJ28 : ∀ (_ : Unit), VV m_X8_areLovers w g 0 0 (QM m_X8_areLovers w g x) (fun b : Int32 => (b, σ) = x) 28 [none, none, none] [] σ (J_X8_areLovers_28 n  σ) := by
    intro _
    refine V_iconst (pc := 28) dX8_areLovers_28 ic_0 ?_
    exact hJ29 (0 : Int32)
  refine V_aload_n (pc := 0) dX8_areLovers_0 rfl rfl ?_
  refine V_iload_n (pc := 1) dX8_areLovers_1 rfl rfl ?_
  refine V_callVpi (pc := 2) (As := [.int p1]) (rest := []) (c_X8_gladder w n p1 σ) cw_X8_36 rfl rfl dX8_areLovers_2 kc_56 ci_8 ⟨Nat.le_of_ble_eq_true rfl, Nat.le_of_ble_eq_true rfl⟩ rfl rfl (Nat.le_of_ble_eq_true rfl) (Nat.le_of_ble_eq_true rfl) (Nat.le_of_ble_eq_true rfl) rfl (fun q2 => ?_)
  refine V_iconst (pc := 5) dX8_areLovers_5 ic_1 ?_
  refine V_iload_n (pc := 6) dX8_areLovers_6 rfl rfl ?_
  refine V_ishl (pc := 7) dX8_areLovers_7 ?_
  refine V_iand (pc := 8) dX8_areLovers_8 ?_
  refine V_if_eq (pc := 9) (tgt := 28) dX8_areLovers_9 (by decide +kernel) ?_ ?_
  · refine V_sub (vs' := [none, none, none]) (show vless _ _ from trivial) rfl ?_
    exact hJ28 ()
  · refine V_aload_n (pc := 12) dX8_areLovers_12 rfl rfl ?_
    refine V_iload_n (pc := 13) dX8_areLovers_13 rfl rfl ?_
    refine V_callVpi (pc := 14) (As := [.int p2]) (rest := []) (c_X8_gladder w n p2 σ) cw_X8_36 rfl rfl dX8_areLovers_14 kc_56 ci_8 ⟨Nat.le_of_ble_eq_true rfl, Nat.le_of_ble_eq_true rfl⟩ rfl rfl (Nat.le_of_ble_eq_true rfl) (Nat.le_of_ble_eq_true rfl) (Nat.le_of_ble_eq_true rfl) rfl (fun q14 => ?_)
    refine V_iconst (pc := 17) dX8_areLovers_17 ic_1 ?_
    refine V_iload_n (pc := 18) dX8_areLovers_18 rfl rfl ?_
    refine V_ishl (pc := 19) dX8_areLovers_19 ?_
    refine V_iand (pc := 20) dX8_areLovers_20 ?_
    refine V_if_eq (pc := 21) (tgt := 28) dX8_areLovers_21 (by decide +kernel) ?_ ?_
    · refine V_sub (vs' := [none, none, none]) (show vless _ _ from trivial) rfl ?_
      exact hJ28 ()
    · refine V_iconst (pc := 24) dX8_areLovers_24 ic_1 ?_
      refine V_goto (pc := 25) (tgt := 29) dX8_areLovers_25 (by decide +kernel) ?_
      refine V_sub (vs' := [none, none, none]) (show vless _ _ from trivial) rfl ?_
      exact hJ29 (1 : Int32)
def L_X8_firstLovers_17 (n : Nat) (v1 : Int32) (σ : MS) (a17 : Int32) : Option ((Int32) ⊕ ((Int32) ⊕ (Int32))) := (if (σ 3 0) ≤ a17 then (some (.inl ((v1 + (1 : Int32))))).map Sum.inr else ((f_X8_areLovers n v1 a17 σ).bind (fun q31 => (if q31 = 0 then some (.inl ((a17 + (1 : Int32)))) else ((some (((10 : Int32) * v1) + a17)).map Sum.inr).map Sum.inr))))
def L_X8_firstLovers_2 (n : Nat)  (σ : MS) (a2 : Int32) : Option ((Int32) ⊕ (Int32)) := (if (σ 3 0) ≤ a2 then (some (-1 : Int32)).map Sum.inr else itr (L_X8_firstLovers_17 n a2 σ) n ((a2 + (1 : Int32))))
def f_X8_firstLovers (n : Nat)  (σ : MS) : Option (Int32) := itr (L_X8_firstLovers_2 n  σ) n ((0 : Int32))
set_option maxRecDepth 20000 in
set_option maxHeartbeats 2000000 in
theorem c_X8_firstLovers (w : TG) (n : Nat)  (σ : MS) : MC m_X8_firstLovers w [.ref (wB w + 56)] σ ((f_X8_firstLovers n  σ).map (fun r => (r, σ))) := by
  refine V_methp (by decide +kernel) (Nat.le_of_ble_eq_true rfl) (by intro v hv; simp only [List.mem_cons, List.not_mem_nil, or_false] at hv; subst hv; rfl) (fun g x => ?_)
  show VV m_X8_firstLovers w g 0 0 (QM m_X8_firstLovers w g x) (fun b : Int32 => (b, σ) = x) 0 [some (.ref (wB w + 56)), none, none] [] σ (f_X8_firstLovers n  σ)
  have hL2 : ∀  (n0 : Nat) (a : Int32), VV m_X8_firstLovers w g 0 0 (QM m_X8_firstLovers w g x) (fun b : Int32 => (b, σ) = x) 2 [some (.ref (wB w + 56)), some (.int a), none] [] σ (itr (L_X8_firstLovers_2 n  σ) n0 a) := by
    refine V_itr (vf := fun a : Int32 => [some (.ref (wB w + 56)), some (.int a), none]) (sf := fun a : Int32 => σ) (fun κ2 b2 r2 a2 => ?_)
    show VV m_X8_firstLovers w g 0 0 (QM m_X8_firstLovers w g x) κ2 2 [some (.ref (wB w + 56)), some (.int a2), none] [] σ (L_X8_firstLovers_2 n  σ a2)
    have hL17 : ∀ (v1 : Int32) (n0 : Nat) (a : Int32), VV m_X8_firstLovers w g 0 0 (QM m_X8_firstLovers w g x) κ2 17 [some (.ref (wB w + 56)), some (.int v1), some (.int a)] [] σ (itr (L_X8_firstLovers_17 n v1 σ) n0 a) := by
      intro v1
      refine V_itr (vf := fun a : Int32 => [some (.ref (wB w + 56)), some (.int v1), some (.int a)]) (sf := fun a : Int32 => σ) (fun κ17 b17 r17 a17 => ?_)
      show VV m_X8_firstLovers w g 0 0 (QM m_X8_firstLovers w g x) κ17 17 [some (.ref (wB w + 56)), some (.int v1), some (.int a17)] [] σ (L_X8_firstLovers_17 n v1 σ a17)
      refine V_iload_n (pc := 17) dX8_firstLovers_17 rfl rfl ?_
      refine V_aload_n (pc := 18) dX8_firstLovers_18 rfl rfl ?_
      refine V_getr (pc := 19) (t := 3) fk_X8_18 rfl dX8_firstLovers_19 kc_56 rf_8_0_56 ?_
      refine V_geti (pc := 22) fk_X8_32 rfl dX8_firstLovers_22 kc_3 rf_4_0_3 ?_
      refine V_icmp_ge (pc := 25) (tgt := 50) dX8_firstLovers_25 (by decide +kernel) ?_ ?_
      · refine V_exit r17 ?_
        refine V_iincC (pc := 50) (vs' := [some (.ref (wB w + 56)), some (.int (v1 + (1 : Int32))), some (.int a17)]) dX8_firstLovers_50 (Nat.le_of_ble_eq_true rfl) rfl ic_1 rfl ?_
        refine V_goto (pc := 53) (tgt := 2) dX8_firstLovers_53 (by decide +kernel) ?_
        refine V_sub (vs' := [some (.ref (wB w + 56)), some (.int (v1 + (1 : Int32))), none]) (show vless _ _ from ⟨rfl, ⟨rfl, trivial⟩⟩) rfl ?_
        exact V_back (b2 ((v1 + (1 : Int32))))
      · refine V_aload_n (pc := 28) dX8_firstLovers_28 rfl rfl ?_
        refine V_iload_n (pc := 29) dX8_firstLovers_29 rfl rfl ?_
        refine V_iload_n (pc := 30) dX8_firstLovers_30 rfl rfl ?_
        refine V_callVpi (pc := 31) (As := [.int v1, .int a17]) (rest := []) (c_X8_areLovers w n v1 a17 σ) cw_X8_39 rfl rfl dX8_firstLovers_31 kc_56 ci_8 ⟨Nat.le_of_ble_eq_true rfl, Nat.le_of_ble_eq_true rfl⟩ rfl rfl (Nat.le_of_ble_eq_true rfl) (Nat.le_of_ble_eq_true rfl) (Nat.le_of_ble_eq_true rfl) rfl (fun q31 => ?_)
        refine V_if_eq (pc := 34) (tgt := 44) dX8_firstLovers_34 (by decide +kernel) ?_ ?_
        · refine V_iincC (pc := 44) (vs' := [some (.ref (wB w + 56)), some (.int v1), some (.int (a17 + (1 : Int32)))]) dX8_firstLovers_44 (Nat.le_of_ble_eq_true rfl) rfl ic_1 rfl ?_
          refine V_goto (pc := 47) (tgt := 17) dX8_firstLovers_47 (by decide +kernel) ?_
          exact V_back (b17 ((a17 + (1 : Int32))))
        · refine V_exit r17 ?_
          refine V_exit r2 ?_
          refine V_bipush (pc := 37) dX8_firstLovers_37 bp_10 ?_
          refine V_iload_n (pc := 39) dX8_firstLovers_39 rfl rfl ?_
          refine V_imul (pc := 40) dX8_firstLovers_40 ?_
          refine V_iload_n (pc := 41) dX8_firstLovers_41 rfl rfl ?_
          refine V_iadd (pc := 42) dX8_firstLovers_42 ?_
          exact V_ireti (pc := 43) dX8_firstLovers_43 rfl (hk := fun h => h)
    refine V_iload_n (pc := 2) dX8_firstLovers_2 rfl rfl ?_
    refine V_aload_n (pc := 3) dX8_firstLovers_3 rfl rfl ?_
    refine V_getr (pc := 4) (t := 3) fk_X8_18 rfl dX8_firstLovers_4 kc_56 rf_8_0_56 ?_
    refine V_geti (pc := 7) fk_X8_32 rfl dX8_firstLovers_7 kc_3 rf_4_0_3 ?_
    refine V_icmp_ge (pc := 10) (tgt := 56) dX8_firstLovers_10 (by decide +kernel) ?_ ?_
    · refine V_exit r2 ?_
      refine V_iconst (pc := 56) dX8_firstLovers_56 ic_m1 ?_
      exact V_ireti (pc := 57) dX8_firstLovers_57 rfl (hk := fun h => h)
    · refine V_iload_n (pc := 13) dX8_firstLovers_13 rfl rfl ?_
      refine V_iconst (pc := 14) dX8_firstLovers_14 ic_1 ?_
      refine V_iadd (pc := 15) dX8_firstLovers_15 ?_
      refine V_istore_n (pc := 16) (vs' := [some (.ref (wB w + 56)), some (.int a2), some (.int (a2 + (1 : Int32)))]) dX8_firstLovers_16 rfl (Nat.le_of_ble_eq_true rfl) (Nat.le_of_ble_eq_true rfl) rfl ?_
      exact hL17 a2 n ((a2 + (1 : Int32)))
  refine V_iconst (pc := 0) dX8_firstLovers_0 ic_0 ?_
  refine V_istore_n (pc := 1) (vs' := [some (.ref (wB w + 56)), some (.int (0 : Int32)), none]) dX8_firstLovers_1 rfl (Nat.le_of_ble_eq_true rfl) (Nat.le_of_ble_eq_true rfl) rfl ?_
  exact hL2 n ((0 : Int32))
def J_X8_manyLovers_42 (n : Nat) (v2 : Int32) (v1 : Int32) (v3 : Int32) (σ : MS) : Option ((Int32 × Int32) ⊕ ((Int32 × Int32) ⊕ (Int32))) := some (.inl (v1, (v3 + (1 : Int32))))
def L_X8_manyLovers_19 (n : Nat) (v2 : Int32) (σ : MS) (a19 : Int32 × Int32) : Option ((Int32 × Int32) ⊕ ((Int32 × Int32) ⊕ (Int32))) := (if (σ 3 0) ≤ a19.2 then (some (.inl (a19.1, (v2 + (1 : Int32))))).map Sum.inr else ((f_X8_areLovers n v2 a19.2 σ).bind (fun q33 => (if q33 = 0 then J_X8_manyLovers_42 n v2 a19.1 a19.2 σ else J_X8_manyLovers_42 n v2 (a19.1 + (1 : Int32)) a19.2 σ))))
def L_X8_manyLovers_4 (n : Nat)  (σ : MS) (a4 : Int32 × Int32) : Option ((Int32 × Int32) ⊕ (Int32)) := (if (σ 3 0) ≤ a4.2 then (some a4.1).map Sum.inr else itr (L_X8_manyLovers_19 n a4.2 σ) n (a4.1, (a4.2 + (1 : Int32))))
def f_X8_manyLovers (n : Nat)  (σ : MS) : Option (Int32) := itr (L_X8_manyLovers_4 n  σ) n ((0 : Int32), (0 : Int32))
set_option maxRecDepth 20000 in
set_option maxHeartbeats 2000000 in
theorem c_X8_manyLovers (w : TG) (n : Nat)  (σ : MS) : MC m_X8_manyLovers w [.ref (wB w + 56)] σ ((f_X8_manyLovers n  σ).map (fun r => (r, σ))) := by
  refine V_methp (by decide +kernel) (Nat.le_of_ble_eq_true rfl) (by intro v hv; simp only [List.mem_cons, List.not_mem_nil, or_false] at hv; subst hv; rfl) (fun g x => ?_)
  show VV m_X8_manyLovers w g 0 0 (QM m_X8_manyLovers w g x) (fun b : Int32 => (b, σ) = x) 0 [some (.ref (wB w + 56)), none, none, none] [] σ (f_X8_manyLovers n  σ)
  have hL4 : ∀  (n0 : Nat) (a : Int32 × Int32), VV m_X8_manyLovers w g 0 0 (QM m_X8_manyLovers w g x) (fun b : Int32 => (b, σ) = x) 4 [some (.ref (wB w + 56)), some (.int a.1), some (.int a.2), none] [] σ (itr (L_X8_manyLovers_4 n  σ) n0 a) := by
    refine V_itr (vf := fun a : Int32 × Int32 => [some (.ref (wB w + 56)), some (.int a.1), some (.int a.2), none]) (sf := fun a : Int32 × Int32 => σ) (fun κ4 b4 r4 a4 => ?_)
    obtain ⟨a4_1, a4_2⟩ := a4
    show VV m_X8_manyLovers w g 0 0 (QM m_X8_manyLovers w g x) κ4 4 [some (.ref (wB w + 56)), some (.int a4_1), some (.int a4_2), none] [] σ (L_X8_manyLovers_4 n  σ (a4_1, a4_2))
    have hL19 : ∀ (v2 : Int32) (n0 : Nat) (a : Int32 × Int32), VV m_X8_manyLovers w g 0 0 (QM m_X8_manyLovers w g x) κ4 19 [some (.ref (wB w + 56)), some (.int a.1), some (.int v2), some (.int a.2)] [] σ (itr (L_X8_manyLovers_19 n v2 σ) n0 a) := by
      intro v2
      refine V_itr (vf := fun a : Int32 × Int32 => [some (.ref (wB w + 56)), some (.int a.1), some (.int v2), some (.int a.2)]) (sf := fun a : Int32 × Int32 => σ) (fun κ19 b19 r19 a19 => ?_)
      obtain ⟨a19_1, a19_2⟩ := a19
      show VV m_X8_manyLovers w g 0 0 (QM m_X8_manyLovers w g x) κ19 19 [some (.ref (wB w + 56)), some (.int a19_1), some (.int v2), some (.int a19_2)] [] σ (L_X8_manyLovers_19 n v2 σ (a19_1, a19_2))
      have hJ42 : ∀ (v1 : Int32) (v3 : Int32), VV m_X8_manyLovers w g 0 0 (QM m_X8_manyLovers w g x) κ19 42 [some (.ref (wB w + 56)), some (.int v1), some (.int v2), some (.int v3)] [] σ (J_X8_manyLovers_42 n v2 v1 v3 σ) := by
        intro v1 v3
        refine V_iincC (pc := 42) (vs' := [some (.ref (wB w + 56)), some (.int v1), some (.int v2), some (.int (v3 + (1 : Int32)))]) dX8_manyLovers_42 (Nat.le_of_ble_eq_true rfl) rfl ic_1 rfl ?_
        refine V_goto (pc := 45) (tgt := 19) dX8_manyLovers_45 (by decide +kernel) ?_
        exact V_back (b19 (v1, (v3 + (1 : Int32))))
      refine V_iload_n (pc := 19) dX8_manyLovers_19 rfl rfl ?_
      refine V_aload_n (pc := 20) dX8_manyLovers_20 rfl rfl ?_
      refine V_getr (pc := 21) (t := 3) fk_X8_18 rfl dX8_manyLovers_21 kc_56 rf_8_0_56 ?_
      refine V_geti (pc := 24) fk_X8_32 rfl dX8_manyLovers_24 kc_3 rf_4_0_3 ?_
      refine V_icmp_ge (pc := 27) (tgt := 48) dX8_manyLovers_27 (by decide +kernel) ?_ ?_
      · refine V_exit r19 ?_
        refine V_iincC (pc := 48) (vs' := [some (.ref (wB w + 56)), some (.int a19_1), some (.int (v2 + (1 : Int32))), some (.int a19_2)]) dX8_manyLovers_48 (Nat.le_of_ble_eq_true rfl) rfl ic_1 rfl ?_
        refine V_goto (pc := 51) (tgt := 4) dX8_manyLovers_51 (by decide +kernel) ?_
        refine V_sub (vs' := [some (.ref (wB w + 56)), some (.int a19_1), some (.int (v2 + (1 : Int32))), none]) (show vless _ _ from ⟨rfl, ⟨rfl, ⟨rfl, trivial⟩⟩⟩) rfl ?_
        exact V_back (b4 (a19_1, (v2 + (1 : Int32))))
      · refine V_aload_n (pc := 30) dX8_manyLovers_30 rfl rfl ?_
        refine V_iload_n (pc := 31) dX8_manyLovers_31 rfl rfl ?_
        refine V_iload_n (pc := 32) dX8_manyLovers_32 rfl rfl ?_
        refine V_callVpi (pc := 33) (As := [.int v2, .int a19_2]) (rest := []) (c_X8_areLovers w n v2 a19_2 σ) cw_X8_39 rfl rfl dX8_manyLovers_33 kc_56 ci_8 ⟨Nat.le_of_ble_eq_true rfl, Nat.le_of_ble_eq_true rfl⟩ rfl rfl (Nat.le_of_ble_eq_true rfl) (Nat.le_of_ble_eq_true rfl) (Nat.le_of_ble_eq_true rfl) rfl (fun q33 => ?_)
        refine V_if_eq (pc := 36) (tgt := 42) dX8_manyLovers_36 (by decide +kernel) ?_ ?_
        · exact hJ42 a19_1 a19_2
        · refine V_iincC (pc := 39) (vs' := [some (.ref (wB w + 56)), some (.int (a19_1 + (1 : Int32))), some (.int v2), some (.int a19_2)]) dX8_manyLovers_39 (Nat.le_of_ble_eq_true rfl) rfl ic_1 rfl ?_
          exact hJ42 (a19_1 + (1 : Int32)) a19_2
    refine V_iload_n (pc := 4) dX8_manyLovers_4 rfl rfl ?_
    refine V_aload_n (pc := 5) dX8_manyLovers_5 rfl rfl ?_
    refine V_getr (pc := 6) (t := 3) fk_X8_18 rfl dX8_manyLovers_6 kc_56 rf_8_0_56 ?_
    refine V_geti (pc := 9) fk_X8_32 rfl dX8_manyLovers_9 kc_3 rf_4_0_3 ?_
    refine V_icmp_ge (pc := 12) (tgt := 54) dX8_manyLovers_12 (by decide +kernel) ?_ ?_
    · refine V_exit r4 ?_
      refine V_iload_n (pc := 54) dX8_manyLovers_54 rfl rfl ?_
      exact V_ireti (pc := 55) dX8_manyLovers_55 rfl (hk := fun h => h)
    · refine V_iload_n (pc := 15) dX8_manyLovers_15 rfl rfl ?_
      refine V_iconst (pc := 16) dX8_manyLovers_16 ic_1 ?_
      refine V_iadd (pc := 17) dX8_manyLovers_17 ?_
      refine V_istore_n (pc := 18) (vs' := [some (.ref (wB w + 56)), some (.int a4_1), some (.int a4_2), some (.int (a4_2 + (1 : Int32)))]) dX8_manyLovers_18 rfl (Nat.le_of_ble_eq_true rfl) (Nat.le_of_ble_eq_true rfl) rfl ?_
      exact hL19 a4_2 n (a4_1, (a4_2 + (1 : Int32)))
  refine V_iconst (pc := 0) dX8_manyLovers_0 ic_0 ?_
  refine V_istore_n (pc := 1) (vs' := [some (.ref (wB w + 56)), some (.int (0 : Int32)), none, none]) dX8_manyLovers_1 rfl (Nat.le_of_ble_eq_true rfl) (Nat.le_of_ble_eq_true rfl) rfl ?_
  refine V_iconst (pc := 2) dX8_manyLovers_2 ic_0 ?_
  refine V_istore_n (pc := 3) (vs' := [some (.ref (wB w + 56)), some (.int (0 : Int32)), some (.int (0 : Int32)), none]) dX8_manyLovers_3 rfl (Nat.le_of_ble_eq_true rfl) (Nat.le_of_ble_eq_true rfl) rfl ?_
  exact hL4 n ((0 : Int32), (0 : Int32))
def J_X8_wouldLeave_47 (t0 : Int32) (σ : MS) : Option (Int32) := (if t0 = 0 ∨ t0 = 1 then some t0 else none)
def J_X8_wouldLeave_28 (v1 : Int32) (v2 : Int32) (t0 : Int32) (σ : MS) : Option (Int32) := ((f_X4_likingOf 3 v1 v2 σ).bind (fun q35 => (if q35 ≤ t0 then J_X8_wouldLeave_47 (0 : Int32) σ else J_X8_wouldLeave_47 (1 : Int32) σ)))
def f_X8_wouldLeave (p1 : Int32) (p2 : Int32) (σ : MS) : Option (Int32) := (if inb p1 8 then (if (σ 57 (ix p1)) = p1 then J_X8_wouldLeave_28 p1 p2 (-1 : Int32) σ else (if inb p1 8 then ((f_X4_likingOf 3 p1 (σ 57 (ix p1)) σ).bind (fun q25 => J_X8_wouldLeave_28 p1 p2 q25 σ)) else none)) else none)
set_option maxRecDepth 20000 in
set_option maxHeartbeats 2000000 in
theorem c_X8_wouldLeave (w : TG) (p1 : Int32) (p2 : Int32) (σ : MS) : MC m_X8_wouldLeave w [.ref (wB w + 56), .int p1, .int p2] σ ((f_X8_wouldLeave p1 p2 σ).map (fun r => (r, σ))) := by
  refine V_methp (by decide +kernel) (Nat.le_of_ble_eq_true rfl) (by intro v hv; simp only [List.mem_cons, List.not_mem_nil, or_false] at hv; rcases hv with rfl | rfl | rfl <;> rfl) (fun g x => ?_)
  show VV m_X8_wouldLeave w g 0 0 (QM m_X8_wouldLeave w g x) (fun b : Int32 => (b, σ) = x) 0 [some (.ref (wB w + 56)), some (.int p1), some (.int p2), none] [] σ (f_X8_wouldLeave p1 p2 σ)
  have hJ47 : ∀ (t0 : Int32), VV m_X8_wouldLeave w g 0 0 (QM m_X8_wouldLeave w g x) (fun b : Int32 => (b, σ) = x) 47 [none, none, none, none] [.int t0] σ (J_X8_wouldLeave_47 t0 σ) := by
    intro t0
    exact V_iretZ (pc := 47) dX8_wouldLeave_47 rfl (hk := fun h => h)
  have hJ28 : ∀ (t0 : Int32), VV m_X8_wouldLeave w g 0 0 (QM m_X8_wouldLeave w g x) (fun b : Int32 => (b, σ) = x) 28 [some (.ref (wB w + 56)), some (.int p1), some (.int p2), none] [.int t0] σ (J_X8_wouldLeave_28 p1 p2 t0 σ) := by
    intro t0
    refine V_istore_n (pc := 28) (vs' := [some (.ref (wB w + 56)), some (.int p1), some (.int p2), some (.int t0)]) dX8_wouldLeave_28 rfl (Nat.le_of_ble_eq_true rfl) (Nat.le_of_ble_eq_true rfl) rfl ?_
    refine V_aload_n (pc := 29) dX8_wouldLeave_29 rfl rfl ?_
    refine V_getr (pc := 30) (t := 3) fk_X8_18 rfl dX8_wouldLeave_30 kc_56 rf_8_0_56 ?_
    refine V_iload_n (pc := 33) dX8_wouldLeave_33 rfl rfl ?_
    refine V_iload_n (pc := 34) dX8_wouldLeave_34 rfl rfl ?_
    refine V_callVpi (pc := 35) (As := [.int p1, .int p2]) (rest := []) (c_X4_likingOf w 3 p1 p2 kc_3 σ) cw_X8_28 rfl rfl dX8_wouldLeave_35 kc_3 ci_4 ⟨Nat.le_of_ble_eq_true rfl, Nat.le_of_ble_eq_true rfl⟩ rfl rfl (Nat.le_of_ble_eq_true rfl) (Nat.le_of_ble_eq_true rfl) (Nat.le_of_ble_eq_true rfl) rfl (fun q35 => ?_)
    refine V_iload_n (pc := 38) dX8_wouldLeave_38 rfl rfl ?_
    refine V_icmp_le (pc := 39) (tgt := 46) dX8_wouldLeave_39 (by decide +kernel) ?_ ?_
    · refine V_iconst (pc := 46) dX8_wouldLeave_46 ic_0 ?_
      refine V_sub (vs' := [none, none, none, none]) (show vless _ _ from trivial) rfl ?_
      exact hJ47 (0 : Int32)
    · refine V_iconst (pc := 42) dX8_wouldLeave_42 ic_1 ?_
      refine V_goto (pc := 43) (tgt := 47) dX8_wouldLeave_43 (by decide +kernel) ?_
      refine V_sub (vs' := [none, none, none, none]) (show vless _ _ from trivial) rfl ?_
      exact hJ47 (1 : Int32)
  refine V_aload_n (pc := 0) dX8_wouldLeave_0 rfl rfl ?_
  refine V_getr (pc := 1) (t := 57) fk_X8_9 rfl dX8_wouldLeave_1 kc_56 rf_8_1_56 ?_
  refine V_iload_n (pc := 4) dX8_wouldLeave_4 rfl rfl ?_
  refine V_iald (pc := 5) (n := 8) dX8_wouldLeave_5 kc_57 lc_57 ?_
  refine V_iload_n (pc := 6) dX8_wouldLeave_6 rfl rfl ?_
  refine V_icmp_ne (pc := 7) (tgt := 14) dX8_wouldLeave_7 (by decide +kernel) ?_ ?_
  · refine V_aload_n (pc := 14) dX8_wouldLeave_14 rfl rfl ?_
    refine V_getr (pc := 15) (t := 3) fk_X8_18 rfl dX8_wouldLeave_15 kc_56 rf_8_0_56 ?_
    refine V_iload_n (pc := 18) dX8_wouldLeave_18 rfl rfl ?_
    refine V_aload_n (pc := 19) dX8_wouldLeave_19 rfl rfl ?_
    refine V_getr (pc := 20) (t := 57) fk_X8_9 rfl dX8_wouldLeave_20 kc_56 rf_8_1_56 ?_
    refine V_iload_n (pc := 23) dX8_wouldLeave_23 rfl rfl ?_
    refine V_iald (pc := 24) (n := 8) dX8_wouldLeave_24 kc_57 lc_57 ?_
    refine V_callVpi (pc := 25) (As := [.int p1, .int (σ 57 (ix p1))]) (rest := []) (c_X4_likingOf w 3 p1 (σ 57 (ix p1)) kc_3 σ) cw_X8_28 rfl rfl dX8_wouldLeave_25 kc_3 ci_4 ⟨Nat.le_of_ble_eq_true rfl, Nat.le_of_ble_eq_true rfl⟩ rfl rfl (Nat.le_of_ble_eq_true rfl) (Nat.le_of_ble_eq_true rfl) (Nat.le_of_ble_eq_true rfl) rfl (fun q25 => ?_)
    exact hJ28 q25
  · refine V_iconst (pc := 10) dX8_wouldLeave_10 ic_m1 ?_
    refine V_goto (pc := 11) (tgt := 28) dX8_wouldLeave_11 (by decide +kernel) ?_
    exact hJ28 (-1 : Int32)
def J_X8_keepIfSteady_84 (n : Nat)  (σ : MS) : Option (Int32 × MS) := (ltM (mu σ 56 3 ((σ 56 3) + (1 : Int32))) (fun s91 => some (0, s91)))
def J_X8_keepIfSteady_47 (n : Nat) (v1 : Int32) (v2 : Int32) (σ : MS) : Option ((Int32) ⊕ ((Int32) ⊕ (Int32 × MS))) := some (.inl ((v2 + (1 : Int32))))
def L_X8_keepIfSteady_17 (n : Nat) (v1 : Int32) (σ : MS) (a17 : Int32) : Option ((Int32) ⊕ ((Int32) ⊕ (Int32 × MS))) := (if (σ 3 0) ≤ a17 then (some (.inl ((v1 + (1 : Int32))))).map Sum.inr else ((f_X8_wouldLeave v1 a17 σ).bind (fun q31 => (if q31 = 0 then J_X8_keepIfSteady_47 n v1 a17 σ else ((f_X8_wouldLeave a17 v1 σ).bind (fun q40 => (if q40 = 0 then J_X8_keepIfSteady_47 n v1 a17 σ else ((some (0, σ)).map Sum.inr).map Sum.inr)))))))
def L_X8_keepIfSteady_2 (n : Nat)  (σ : MS) (a2 : Int32) : Option ((Int32) ⊕ (Int32 × MS)) := (if (σ 3 0) ≤ a2 then ((if (σ 56 3) = 0 then (ltM (mcp σ 57 58 8) (fun s81 => J_X8_keepIfSteady_84 n  s81)) else J_X8_keepIfSteady_84 n  σ)).map Sum.inr else itr (L_X8_keepIfSteady_17 n a2 σ) n ((a2 + (1 : Int32))))
def f_X8_keepIfSteady (n : Nat)  (σ : MS) : Option (Int32 × MS) := itr (L_X8_keepIfSteady_2 n  σ) n ((0 : Int32))
set_option maxRecDepth 20000 in
set_option maxHeartbeats 2000000 in
theorem c_X8_keepIfSteady (w : TG) (n : Nat)  (σ : MS) : MC m_X8_keepIfSteady w [.ref (wB w + 56)] σ (f_X8_keepIfSteady n  σ) := by
  refine V_meth (by decide +kernel) (Nat.le_of_ble_eq_true rfl) (by intro v hv; simp only [List.mem_cons, List.not_mem_nil, or_false] at hv; subst hv; rfl) (fun g x => ?_)
  show VV m_X8_keepIfSteady w g 0 0 (QM m_X8_keepIfSteady w g x) (fun b : Int32 × MS => b = x) 0 [some (.ref (wB w + 56)), none, none] [] σ (f_X8_keepIfSteady n  σ)
  have hJ84 : ∀ (σ : MS), VV m_X8_keepIfSteady w g 0 0 (QM m_X8_keepIfSteady w g x) (fun b : Int32 × MS => b = x) 84 [some (.ref (wB w + 56)), none, none] [] σ (J_X8_keepIfSteady_84 n  σ) := by
    intro σ
    refine V_aload_n (pc := 84) dX8_keepIfSteady_84 rfl rfl ?_
    refine V_dup (pc := 85) dX8_keepIfSteady_85 rfl ?_
    refine V_geti (pc := 86) fk_X8_43 rfl dX8_keepIfSteady_86 kc_56 rf_8_3_56 ?_
    refine V_iconst (pc := 89) dX8_keepIfSteady_89 ic_1 ?_
    refine V_iadd (pc := 90) dX8_keepIfSteady_90 ?_
    refine V_puti (pc := 91) fp_X8_43 rfl dX8_keepIfSteady_91 kc_56 rf_8_3_56 (fun s91 => ?_)
    exact V_ret (pc := 94) dX8_keepIfSteady_94 rfl (hk := fun h => h)
  have hL2 : ∀ (σ : MS) (n0 : Nat) (a : Int32), VV m_X8_keepIfSteady w g 0 0 (QM m_X8_keepIfSteady w g x) (fun b : Int32 × MS => b = x) 2 [some (.ref (wB w + 56)), some (.int a), none] [] σ (itr (L_X8_keepIfSteady_2 n  σ) n0 a) := by
    intro σ
    refine V_itr (vf := fun a : Int32 => [some (.ref (wB w + 56)), some (.int a), none]) (sf := fun a : Int32 => σ) (fun κ2 b2 r2 a2 => ?_)
    show VV m_X8_keepIfSteady w g 0 0 (QM m_X8_keepIfSteady w g x) κ2 2 [some (.ref (wB w + 56)), some (.int a2), none] [] σ (L_X8_keepIfSteady_2 n  σ a2)
    have hL17 : ∀ (v1 : Int32) (n0 : Nat) (a : Int32), VV m_X8_keepIfSteady w g 0 0 (QM m_X8_keepIfSteady w g x) κ2 17 [some (.ref (wB w + 56)), some (.int v1), some (.int a)] [] σ (itr (L_X8_keepIfSteady_17 n v1 σ) n0 a) := by
      intro v1
      refine V_itr (vf := fun a : Int32 => [some (.ref (wB w + 56)), some (.int v1), some (.int a)]) (sf := fun a : Int32 => σ) (fun κ17 b17 r17 a17 => ?_)
      show VV m_X8_keepIfSteady w g 0 0 (QM m_X8_keepIfSteady w g x) κ17 17 [some (.ref (wB w + 56)), some (.int v1), some (.int a17)] [] σ (L_X8_keepIfSteady_17 n v1 σ a17)
      have hJ47 : ∀ (v2 : Int32), VV m_X8_keepIfSteady w g 0 0 (QM m_X8_keepIfSteady w g x) κ17 47 [some (.ref (wB w + 56)), some (.int v1), some (.int v2)] [] σ (J_X8_keepIfSteady_47 n v1 v2 σ) := by
        intro v2
        refine V_iincC (pc := 47) (vs' := [some (.ref (wB w + 56)), some (.int v1), some (.int (v2 + (1 : Int32)))]) dX8_keepIfSteady_47 (Nat.le_of_ble_eq_true rfl) rfl ic_1 rfl ?_
        refine V_goto (pc := 50) (tgt := 17) dX8_keepIfSteady_50 (by decide +kernel) ?_
        exact V_back (b17 ((v2 + (1 : Int32))))
      refine V_iload_n (pc := 17) dX8_keepIfSteady_17 rfl rfl ?_
      refine V_aload_n (pc := 18) dX8_keepIfSteady_18 rfl rfl ?_
      refine V_getr (pc := 19) (t := 3) fk_X8_18 rfl dX8_keepIfSteady_19 kc_56 rf_8_0_56 ?_
      refine V_geti (pc := 22) fk_X8_32 rfl dX8_keepIfSteady_22 kc_3 rf_4_0_3 ?_
      refine V_icmp_ge (pc := 25) (tgt := 53) dX8_keepIfSteady_25 (by decide +kernel) ?_ ?_
      · refine V_exit r17 ?_
        refine V_iincC (pc := 53) (vs' := [some (.ref (wB w + 56)), some (.int (v1 + (1 : Int32))), some (.int a17)]) dX8_keepIfSteady_53 (Nat.le_of_ble_eq_true rfl) rfl ic_1 rfl ?_
        refine V_goto (pc := 56) (tgt := 2) dX8_keepIfSteady_56 (by decide +kernel) ?_
        refine V_sub (vs' := [some (.ref (wB w + 56)), some (.int (v1 + (1 : Int32))), none]) (show vless _ _ from ⟨rfl, ⟨rfl, trivial⟩⟩) rfl ?_
        exact V_back (b2 ((v1 + (1 : Int32))))
      · refine V_aload_n (pc := 28) dX8_keepIfSteady_28 rfl rfl ?_
        refine V_iload_n (pc := 29) dX8_keepIfSteady_29 rfl rfl ?_
        refine V_iload_n (pc := 30) dX8_keepIfSteady_30 rfl rfl ?_
        refine V_callVpi (pc := 31) (As := [.int v1, .int a17]) (rest := []) (c_X8_wouldLeave w v1 a17 σ) cw_X8_53 rfl rfl dX8_keepIfSteady_31 kc_56 ci_8 ⟨Nat.le_of_ble_eq_true rfl, Nat.le_of_ble_eq_true rfl⟩ rfl rfl (Nat.le_of_ble_eq_true rfl) (Nat.le_of_ble_eq_true rfl) (Nat.le_of_ble_eq_true rfl) rfl (fun q31 => ?_)
        refine V_if_eq (pc := 34) (tgt := 47) dX8_keepIfSteady_34 (by decide +kernel) ?_ ?_
        · exact hJ47 a17
        · refine V_aload_n (pc := 37) dX8_keepIfSteady_37 rfl rfl ?_
          refine V_iload_n (pc := 38) dX8_keepIfSteady_38 rfl rfl ?_
          refine V_iload_n (pc := 39) dX8_keepIfSteady_39 rfl rfl ?_
          refine V_callVpi (pc := 40) (As := [.int a17, .int v1]) (rest := []) (c_X8_wouldLeave w a17 v1 σ) cw_X8_53 rfl rfl dX8_keepIfSteady_40 kc_56 ci_8 ⟨Nat.le_of_ble_eq_true rfl, Nat.le_of_ble_eq_true rfl⟩ rfl rfl (Nat.le_of_ble_eq_true rfl) (Nat.le_of_ble_eq_true rfl) (Nat.le_of_ble_eq_true rfl) rfl (fun q40 => ?_)
          refine V_if_eq (pc := 43) (tgt := 47) dX8_keepIfSteady_43 (by decide +kernel) ?_ ?_
          · exact hJ47 a17
          · refine V_exit r17 ?_
            refine V_exit r2 ?_
            exact V_ret (pc := 46) dX8_keepIfSteady_46 rfl (hk := fun h => h)
    refine V_iload_n (pc := 2) dX8_keepIfSteady_2 rfl rfl ?_
    refine V_aload_n (pc := 3) dX8_keepIfSteady_3 rfl rfl ?_
    refine V_getr (pc := 4) (t := 3) fk_X8_18 rfl dX8_keepIfSteady_4 kc_56 rf_8_0_56 ?_
    refine V_geti (pc := 7) fk_X8_32 rfl dX8_keepIfSteady_7 kc_3 rf_4_0_3 ?_
    refine V_icmp_ge (pc := 10) (tgt := 59) dX8_keepIfSteady_10 (by decide +kernel) ?_ ?_
    · refine V_exit r2 ?_
      refine V_aload_n (pc := 59) dX8_keepIfSteady_59 rfl rfl ?_
      refine V_geti (pc := 60) fk_X8_43 rfl dX8_keepIfSteady_60 kc_56 rf_8_3_56 ?_
      refine V_if_ne (pc := 63) (tgt := 84) dX8_keepIfSteady_63 (by decide +kernel) ?_ ?_
      · refine V_sub (vs' := [some (.ref (wB w + 56)), none, none]) (show vless _ _ from ⟨rfl, trivial⟩) rfl ?_
        exact hJ84 σ
      · refine V_aload_n (pc := 66) dX8_keepIfSteady_66 rfl rfl ?_
        refine V_getr (pc := 67) (t := 57) fk_X8_9 rfl dX8_keepIfSteady_67 kc_56 rf_8_1_56 ?_
        refine V_iconst (pc := 70) dX8_keepIfSteady_70 ic_0 ?_
        refine V_aload_n (pc := 71) dX8_keepIfSteady_71 rfl rfl ?_
        refine V_getr (pc := 72) (t := 58) fk_X8_15 rfl dX8_keepIfSteady_72 kc_56 rf_8_2_56 ?_
        refine V_iconst (pc := 75) dX8_keepIfSteady_75 ic_0 ?_
        refine V_aload_n (pc := 76) dX8_keepIfSteady_76 rfl rfl ?_
        refine V_getr (pc := 77) (t := 57) fk_X8_9 rfl dX8_keepIfSteady_77 kc_56 rf_8_1_56 ?_
        refine V_alen (pc := 80) (v := (8 : Int32)) dX8_keepIfSteady_80 kc_57 (by rw [lc_57]; exact aln_8) ?_
        refine V_copy (pc := 81) (N := 8) dX8_keepIfSteady_81 rfl cpw_X8_56 (Nat.le_of_ble_eq_true rfl) (Nat.le_trans copyr (Nat.le_of_ble_eq_true rfl)) kc_57 kc_58 lc_57 lc_58 aln_8.symm (Nat.le_of_ble_eq_true rfl) (fun s81 => ?_)
        refine V_sub (vs' := [some (.ref (wB w + 56)), none, none]) (show vless _ _ from ⟨rfl, trivial⟩) rfl ?_
        exact hJ84 s81
    · refine V_iload_n (pc := 13) dX8_keepIfSteady_13 rfl rfl ?_
      refine V_iconst (pc := 14) dX8_keepIfSteady_14 ic_1 ?_
      refine V_iadd (pc := 15) dX8_keepIfSteady_15 ?_
      refine V_istore_n (pc := 16) (vs' := [some (.ref (wB w + 56)), some (.int a2), some (.int (a2 + (1 : Int32)))]) dX8_keepIfSteady_16 rfl (Nat.le_of_ble_eq_true rfl) (Nat.le_of_ble_eq_true rfl) rfl ?_
      exact hL17 a2 n ((a2 + (1 : Int32)))
  refine V_iconst (pc := 0) dX8_keepIfSteady_0 ic_0 ?_
  refine V_istore_n (pc := 1) (vs' := [some (.ref (wB w + 56)), some (.int (0 : Int32)), none]) dX8_keepIfSteady_1 rfl (Nat.le_of_ble_eq_true rfl) (Nat.le_of_ble_eq_true rfl) rfl ?_
  exact hL2 σ n ((0 : Int32))
def IH_gp (d : Nat) (r : RT_gp) : Prop := (∀ (w : TG) (p1 : Int32) (p2 : Int32) (σ : MS), MC (mr_X8_place d) w [.ref (wB w + 56), .int p1, .int p2] σ (r p1 p2 σ))
def J_X8_place_122 (r : RT_gp) (n : Nat) (v1 : Int32) (v2 : Int32) (v3 : Int32) (σ : MS) : Option ((Int32 × MS) ⊕ (Int32 × MS)) := some (.inl ((v3 + (1 : Int32)), σ))
def L_X8_place_65 (r : RT_gp) (n : Nat) (v1 : Int32) (v2 : Int32) (σ : MS) (a65 : Int32 × MS) : Option ((Int32 × MS) ⊕ (Int32 × MS)) := (if (a65.2 3 0) ≤ a65.1 then (some (0, a65.2)).map Sum.inr else (if inb a65.1 8 then (if (a65.2 57 (ix a65.1)) = (-1 : Int32) then (if inb v1 8 then ltM (mu a65.2 57 (ix v1) a65.1) (fun s92 => (if inb a65.1 8 then ltM (mu s92 57 (ix a65.1) v1) (fun s99 => ((r (v1 + (1 : Int32)) v2 s99).bind (fun q105 => (if inb v1 8 then ltM (mu q105.2 57 (ix v1) (-1 : Int32)) (fun s114 => (if inb a65.1 8 then ltM (mu s114 57 (ix a65.1) (-1 : Int32)) (fun s121 => J_X8_place_122 r n v1 v2 a65.1 s121) else none)) else none)))) else none)) else none) else J_X8_place_122 r n v1 v2 a65.1 a65.2) else none))
def J_X8_place_61 (r : RT_gp) (n : Nat) (v1 : Int32) (v2 : Int32) (σ : MS) : Option (Int32 × MS) := itr (L_X8_place_65 r n v1 v2 σ) n ((v1 + (1 : Int32)), σ)
def F_X8_place (r : RT_gp) (n : Nat) (p1 : Int32) (p2 : Int32) (σ : MS) : Option (Int32 × MS) := (if p1 < (σ 3 0) then (if inb p1 8 then (if (σ 57 (ix p1)) = (-1 : Int32) then (if p2 = 0 then J_X8_place_61 r n p1 p2 σ else (if inb p1 8 then ltM (mu σ 57 (ix p1) p1) (fun s45 => ((r (p1 + (1 : Int32)) (0 : Int32) s45).bind (fun q51 => (if inb p1 8 then ltM (mu q51.2 57 (ix p1) (-1 : Int32)) (fun s60 => J_X8_place_61 r n p1 p2 s60) else none)))) else none)) else ((r (p1 + (1 : Int32)) p2 σ).bind (fun q31 => some (0, q31.2)))) else none) else ((f_X8_keepIfSteady n  σ).bind (fun q12 => some (0, q12.2))))
set_option maxRecDepth 20000 in
set_option maxHeartbeats 2000000 in
theorem cst_X8_place (n d : Nat) (r : RT_gp) (ih : IH_gp d r) (w : TG) (p1 : Int32) (p2 : Int32) (σ : MS) : MC (mr_X8_place (d + 1)) w [.ref (wB w + 56), .int p1, .int p2] σ (F_X8_place r n p1 p2 σ) := by
  refine V_meth (show plainName RX8 = true from by decide +kernel) (Nat.le_of_ble_eq_true rfl) (by intro v hv; simp only [List.mem_cons, List.not_mem_nil, or_false] at hv; rcases hv with rfl | rfl | rfl <;> rfl) (fun g x => ?_)
  show VV (mr_X8_place (d + 1)) w g 0 0 (QM (mr_X8_place (d + 1)) w g x) (fun b : Int32 × MS => b = x) 0 [some (.ref (wB w + 56)), some (.int p1), some (.int p2), none] [] σ (F_X8_place r n p1 p2 σ)
  have hL65 : ∀  (n0 : Nat) (a : Int32 × MS), VV (mr_X8_place (d + 1)) w g 0 0 (QM (mr_X8_place (d + 1)) w g x) (fun b : Int32 × MS => b = x) 65 [some (.ref (wB w + 56)), some (.int p1), some (.int p2), some (.int a.1)] [] a.2 (itr (L_X8_place_65 r n p1 p2 σ) n0 a) := by
    refine V_itr (vf := fun a : Int32 × MS => [some (.ref (wB w + 56)), some (.int p1), some (.int p2), some (.int a.1)]) (sf := fun a : Int32 × MS => a.2) (fun κ65 b65 r65 a65 => ?_)
    obtain ⟨a65_1, a65_2⟩ := a65
    show VV (mr_X8_place (d + 1)) w g 0 0 (QM (mr_X8_place (d + 1)) w g x) κ65 65 [some (.ref (wB w + 56)), some (.int p1), some (.int p2), some (.int a65_1)] [] a65_2 (L_X8_place_65 r n p1 p2 σ (a65_1, a65_2))
    have hJ122 : ∀ (v3 : Int32) (σ : MS), VV (mr_X8_place (d + 1)) w g 0 0 (QM (mr_X8_place (d + 1)) w g x) κ65 122 [some (.ref (wB w + 56)), some (.int p1), some (.int p2), some (.int v3)] [] σ (J_X8_place_122 r n p1 p2 v3 σ) := by
      intro v3 σ
      refine V_iincC (pc := 122) (vs' := [some (.ref (wB w + 56)), some (.int p1), some (.int p2), some (.int (v3 + (1 : Int32)))]) dX8_place_122 (Nat.le_of_ble_eq_true rfl) rfl ic_1 rfl ?_
      refine V_goto (pc := 125) (tgt := 65) dX8_place_125 (by decide +kernel) ?_
      exact V_back (b65 ((v3 + (1 : Int32)), σ))
    refine V_iload_n (pc := 65) dX8_place_65 rfl rfl ?_
    refine V_aload_n (pc := 66) dX8_place_66 rfl rfl ?_
    refine V_getr (pc := 67) (t := 3) fk_X8_18 rfl dX8_place_67 kc_56 rf_8_0_56 ?_
    refine V_geti (pc := 70) fk_X8_32 rfl dX8_place_70 kc_3 rf_4_0_3 ?_
    refine V_icmp_ge (pc := 73) (tgt := 128) dX8_place_73 (by decide +kernel) ?_ ?_
    · refine V_exit r65 ?_
      exact V_ret (pc := 128) dX8_place_128 rfl (hk := fun h => h)
    · refine V_aload_n (pc := 76) dX8_place_76 rfl rfl ?_
      refine V_getr (pc := 77) (t := 57) fk_X8_9 rfl dX8_place_77 kc_56 rf_8_1_56 ?_
      refine V_iload_n (pc := 80) dX8_place_80 rfl rfl ?_
      refine V_iald (pc := 81) (n := 8) dX8_place_81 kc_57 lc_57 ?_
      refine V_iconst (pc := 82) dX8_place_82 ic_m1 ?_
      refine V_icmp_ne (pc := 83) (tgt := 122) dX8_place_83 (by decide +kernel) ?_ ?_
      · exact hJ122 a65_1 a65_2
      · refine V_aload_n (pc := 86) dX8_place_86 rfl rfl ?_
        refine V_getr (pc := 87) (t := 57) fk_X8_9 rfl dX8_place_87 kc_56 rf_8_1_56 ?_
        refine V_iload_n (pc := 90) dX8_place_90 rfl rfl ?_
        refine V_iload_n (pc := 91) dX8_place_91 rfl rfl ?_
        refine V_iast (pc := 92) (n := 8) dX8_place_92 kc_57 lc_57 (fun s92 => ?_)
        refine V_aload_n (pc := 93) dX8_place_93 rfl rfl ?_
        refine V_getr (pc := 94) (t := 57) fk_X8_9 rfl dX8_place_94 kc_56 rf_8_1_56 ?_
        refine V_iload_n (pc := 97) dX8_place_97 rfl rfl ?_
        refine V_iload_n (pc := 98) dX8_place_98 rfl rfl ?_
        refine V_iast (pc := 99) (n := 8) dX8_place_99 kc_57 lc_57 (fun s99 => ?_)
        refine V_aload_n (pc := 100) dX8_place_100 rfl rfl ?_
        refine V_iload_n (pc := 101) dX8_place_101 rfl rfl ?_
        refine V_iconst (pc := 102) dX8_place_102 ic_1 ?_
        refine V_iadd (pc := 103) dX8_place_103 ?_
        refine V_iload_n (pc := 104) dX8_place_104 rfl rfl ?_
        refine V_callVv (pc := 105) (As := [.int (p1 + (1 : Int32)), .int p2]) (rest := []) (ih w (p1 + (1 : Int32)) p2 s99) cw_X8_46 rfl rfl dX8_place_105 kc_56 ci_8 ⟨by simp only [mr_X8_place, mr_X8_place]; omega, by simp only [mr_X8_place, mr_X8_place]; omega⟩ rfl rfl (Nat.le_of_ble_eq_true rfl) (Nat.le_of_ble_eq_true rfl) (Nat.le_of_ble_eq_true rfl) rfl (fun q105 => ?_)
        refine V_aload_n (pc := 108) dX8_place_108 rfl rfl ?_
        refine V_getr (pc := 109) (t := 57) fk_X8_9 rfl dX8_place_109 kc_56 rf_8_1_56 ?_
        refine V_iload_n (pc := 112) dX8_place_112 rfl rfl ?_
        refine V_iconst (pc := 113) dX8_place_113 ic_m1 ?_
        refine V_iast (pc := 114) (n := 8) dX8_place_114 kc_57 lc_57 (fun s114 => ?_)
        refine V_aload_n (pc := 115) dX8_place_115 rfl rfl ?_
        refine V_getr (pc := 116) (t := 57) fk_X8_9 rfl dX8_place_116 kc_56 rf_8_1_56 ?_
        refine V_iload_n (pc := 119) dX8_place_119 rfl rfl ?_
        refine V_iconst (pc := 120) dX8_place_120 ic_m1 ?_
        refine V_iast (pc := 121) (n := 8) dX8_place_121 kc_57 lc_57 (fun s121 => ?_)
        exact hJ122 a65_1 s121
  have hJ61 : ∀ (σ : MS), VV (mr_X8_place (d + 1)) w g 0 0 (QM (mr_X8_place (d + 1)) w g x) (fun b : Int32 × MS => b = x) 61 [some (.ref (wB w + 56)), some (.int p1), some (.int p2), none] [] σ (J_X8_place_61 r n p1 p2 σ) := by
    intro σ
    refine V_iload_n (pc := 61) dX8_place_61 rfl rfl ?_
    refine V_iconst (pc := 62) dX8_place_62 ic_1 ?_
    refine V_iadd (pc := 63) dX8_place_63 ?_
    refine V_istore_n (pc := 64) (vs' := [some (.ref (wB w + 56)), some (.int p1), some (.int p2), some (.int (p1 + (1 : Int32)))]) dX8_place_64 rfl (Nat.le_of_ble_eq_true rfl) (Nat.le_of_ble_eq_true rfl) rfl ?_
    exact hL65 n ((p1 + (1 : Int32)), σ)
  refine V_iload_n (pc := 0) dX8_place_0 rfl rfl ?_
  refine V_aload_n (pc := 1) dX8_place_1 rfl rfl ?_
  refine V_getr (pc := 2) (t := 3) fk_X8_18 rfl dX8_place_2 kc_56 rf_8_0_56 ?_
  refine V_geti (pc := 5) fk_X8_32 rfl dX8_place_5 kc_3 rf_4_0_3 ?_
  refine V_icmp_lt (pc := 8) (tgt := 16) dX8_place_8 (by decide +kernel) ?_ ?_
  · refine V_aload_n (pc := 16) dX8_place_16 rfl rfl ?_
    refine V_getr (pc := 17) (t := 57) fk_X8_9 rfl dX8_place_17 kc_56 rf_8_1_56 ?_
    refine V_iload_n (pc := 20) dX8_place_20 rfl rfl ?_
    refine V_iald (pc := 21) (n := 8) dX8_place_21 kc_57 lc_57 ?_
    refine V_iconst (pc := 22) dX8_place_22 ic_m1 ?_
    refine V_icmp_eq (pc := 23) (tgt := 35) dX8_place_23 (by decide +kernel) ?_ ?_
    · refine V_iload_n (pc := 35) dX8_place_35 rfl rfl ?_
      refine V_if_eq (pc := 36) (tgt := 61) dX8_place_36 (by decide +kernel) ?_ ?_
      · exact hJ61 σ
      · refine V_aload_n (pc := 39) dX8_place_39 rfl rfl ?_
        refine V_getr (pc := 40) (t := 57) fk_X8_9 rfl dX8_place_40 kc_56 rf_8_1_56 ?_
        refine V_iload_n (pc := 43) dX8_place_43 rfl rfl ?_
        refine V_iload_n (pc := 44) dX8_place_44 rfl rfl ?_
        refine V_iast (pc := 45) (n := 8) dX8_place_45 kc_57 lc_57 (fun s45 => ?_)
        refine V_aload_n (pc := 46) dX8_place_46 rfl rfl ?_
        refine V_iload_n (pc := 47) dX8_place_47 rfl rfl ?_
        refine V_iconst (pc := 48) dX8_place_48 ic_1 ?_
        refine V_iadd (pc := 49) dX8_place_49 ?_
        refine V_iconst (pc := 50) dX8_place_50 ic_0 ?_
        refine V_callVv (pc := 51) (As := [.int (p1 + (1 : Int32)), .int (0 : Int32)]) (rest := []) (ih w (p1 + (1 : Int32)) (0 : Int32) s45) cw_X8_46 rfl rfl dX8_place_51 kc_56 ci_8 ⟨by simp only [mr_X8_place, mr_X8_place]; omega, by simp only [mr_X8_place, mr_X8_place]; omega⟩ rfl rfl (Nat.le_of_ble_eq_true rfl) (Nat.le_of_ble_eq_true rfl) (Nat.le_of_ble_eq_true rfl) rfl (fun q51 => ?_)
        refine V_aload_n (pc := 54) dX8_place_54 rfl rfl ?_
        refine V_getr (pc := 55) (t := 57) fk_X8_9 rfl dX8_place_55 kc_56 rf_8_1_56 ?_
        refine V_iload_n (pc := 58) dX8_place_58 rfl rfl ?_
        refine V_iconst (pc := 59) dX8_place_59 ic_m1 ?_
        refine V_iast (pc := 60) (n := 8) dX8_place_60 kc_57 lc_57 (fun s60 => ?_)
        exact hJ61 s60
    · refine V_aload_n (pc := 26) dX8_place_26 rfl rfl ?_
      refine V_iload_n (pc := 27) dX8_place_27 rfl rfl ?_
      refine V_iconst (pc := 28) dX8_place_28 ic_1 ?_
      refine V_iadd (pc := 29) dX8_place_29 ?_
      refine V_iload_n (pc := 30) dX8_place_30 rfl rfl ?_
      refine V_callVv (pc := 31) (As := [.int (p1 + (1 : Int32)), .int p2]) (rest := []) (ih w (p1 + (1 : Int32)) p2 σ) cw_X8_46 rfl rfl dX8_place_31 kc_56 ci_8 ⟨by simp only [mr_X8_place, mr_X8_place]; omega, by simp only [mr_X8_place, mr_X8_place]; omega⟩ rfl rfl (Nat.le_of_ble_eq_true rfl) (Nat.le_of_ble_eq_true rfl) (Nat.le_of_ble_eq_true rfl) rfl (fun q31 => ?_)
      exact V_ret (pc := 34) dX8_place_34 rfl (hk := fun h => h)
  · refine V_aload_n (pc := 11) dX8_place_11 rfl rfl ?_
    refine V_callVv (pc := 12) (As := []) (rest := []) (c_X8_keepIfSteady w n  σ) cw_X8_50 rfl rfl dX8_place_12 kc_56 ci_8 ⟨by simp only [mr_X8_place, m_X8_keepIfSteady]; omega, by simp only [mr_X8_place, m_X8_keepIfSteady]; omega⟩ rfl rfl (Nat.le_of_ble_eq_true rfl) (Nat.le_of_ble_eq_true rfl) (Nat.le_of_ble_eq_true rfl) rfl (fun q12 => ?_)
    exact V_ret (pc := 15) dX8_place_15 rfl (hk := fun h => h)
def G_gp (n : Nat) : Nat → RT_gp
  | 0 => ((fun _ _ _ => none))
  | d + 1 => (F_X8_place (G_gp n d) n)
theorem cg_gp (n : Nat) : ∀ d, IH_gp d (G_gp n d) := by
  intro d
  induction d with
  | zero =>
    unfold IH_gp
    exact (fun _ _ _ _ _ _ _ h => by cases h)
  | succ d ih =>
    unfold IH_gp
    exact cst_X8_place n d _ ih
def f_X8_place (n : Nat) (p1 : Int32) (p2 : Int32) (σ : MS) : Option (Int32 × MS) := (G_gp n 30) p1 p2 σ
theorem c_X8_place (w : TG) (n : Nat) (p1 : Int32) (p2 : Int32) (σ : MS) : MC m_X8_place w [.ref (wB w + 56), .int p1, .int p2] σ (f_X8_place n p1 p2 σ) := (cg_gp n 30) w p1 p2 σ
def J_X8_settle_46 (n : Nat) (t0 : Int32) (σ : MS) : Option (Int32 × MS) := ((f_X8_place n (0 : Int32) t0 σ).bind (fun q46 => some (0, q46.2)))
def L_X8_settle_7 (n : Nat)  (σ : MS) (a7 : Int32 × MS) : Option ((Int32 × MS) ⊕ (Int32 × MS)) := (if (8 : Int32) ≤ a7.1 then ((if (remI (a7.2 3 0) (2 : Int32)) = (1 : Int32) then J_X8_settle_46 n (1 : Int32) a7.2 else J_X8_settle_46 n (0 : Int32) a7.2)).map Sum.inr else (if inb a7.1 8 then ltM (mu a7.2 57 (ix a7.1) (-1 : Int32)) (fun s19 => some (.inl ((a7.1 + (1 : Int32)), s19))) else none))
def f_X8_settle (n : Nat)  (σ : MS) : Option (Int32 × MS) := (ltM (mu σ 56 3 (0 : Int32)) (fun s2 => itr (L_X8_settle_7 n  σ) n ((0 : Int32), s2)))
set_option maxRecDepth 20000 in
set_option maxHeartbeats 2000000 in
theorem c_X8_settle (w : TG) (n : Nat)  (σ : MS) : MC m_X8_settle w [.ref (wB w + 56)] σ (f_X8_settle n  σ) := by
  refine V_meth (by decide +kernel) (Nat.le_of_ble_eq_true rfl) (by intro v hv; simp only [List.mem_cons, List.not_mem_nil, or_false] at hv; subst hv; rfl) (fun g x => ?_)
  show VV m_X8_settle w g 0 0 (QM m_X8_settle w g x) (fun b : Int32 × MS => b = x) 0 [some (.ref (wB w + 56)), none] [] σ (f_X8_settle n  σ)
  have hJ46 : ∀ (t0 : Int32) (σ : MS), VV m_X8_settle w g 0 0 (QM m_X8_settle w g x) (fun b : Int32 × MS => b = x) 46 [none, none] [.int t0, .int (0 : Int32), .ref (wB w + 56)] σ (J_X8_settle_46 n t0 σ) := by
    intro t0 σ
    refine V_callVv (pc := 46) (As := [.int (0 : Int32), .int t0]) (rest := []) (c_X8_place w n (0 : Int32) t0 σ) cw_X8_46 rfl rfl dX8_settle_46 kc_56 ci_8 ⟨Nat.le_of_ble_eq_true rfl, Nat.le_of_ble_eq_true rfl⟩ rfl rfl (Nat.le_of_ble_eq_true rfl) (Nat.le_of_ble_eq_true rfl) (Nat.le_of_ble_eq_true rfl) rfl (fun q46 => ?_)
    exact V_ret (pc := 49) dX8_settle_49 rfl (hk := fun h => h)
  have hL7 : ∀  (n0 : Nat) (a : Int32 × MS), VV m_X8_settle w g 0 0 (QM m_X8_settle w g x) (fun b : Int32 × MS => b = x) 7 [some (.ref (wB w + 56)), some (.int a.1)] [] a.2 (itr (L_X8_settle_7 n  σ) n0 a) := by
    refine V_itr (vf := fun a : Int32 × MS => [some (.ref (wB w + 56)), some (.int a.1)]) (sf := fun a : Int32 × MS => a.2) (fun κ7 b7 r7 a7 => ?_)
    obtain ⟨a7_1, a7_2⟩ := a7
    show VV m_X8_settle w g 0 0 (QM m_X8_settle w g x) κ7 7 [some (.ref (wB w + 56)), some (.int a7_1)] [] a7_2 (L_X8_settle_7 n  σ (a7_1, a7_2))
    refine V_iload_n (pc := 7) dX8_settle_7 rfl rfl ?_
    refine V_bipush (pc := 8) dX8_settle_8 bp_8 ?_
    refine V_icmp_ge (pc := 10) (tgt := 26) dX8_settle_10 (by decide +kernel) ?_ ?_
    · refine V_exit r7 ?_
      refine V_aload_n (pc := 26) dX8_settle_26 rfl rfl ?_
      refine V_iconst (pc := 27) dX8_settle_27 ic_0 ?_
      refine V_aload_n (pc := 28) dX8_settle_28 rfl rfl ?_
      refine V_getr (pc := 29) (t := 3) fk_X8_18 rfl dX8_settle_29 kc_56 rf_8_0_56 ?_
      refine V_geti (pc := 32) fk_X8_32 rfl dX8_settle_32 kc_3 rf_4_0_3 ?_
      refine V_iconst (pc := 35) dX8_settle_35 ic_2 ?_
      refine V_irem (pc := 36) dX8_settle_36 (by decide +kernel) ?_
      refine V_iconst (pc := 37) dX8_settle_37 ic_1 ?_
      refine V_icmp_ne (pc := 38) (tgt := 45) dX8_settle_38 (by decide +kernel) ?_ ?_
      · refine V_iconst (pc := 45) dX8_settle_45 ic_0 ?_
        refine V_sub (vs' := [none, none]) (show vless _ _ from trivial) rfl ?_
        exact hJ46 (0 : Int32) a7_2
      · refine V_iconst (pc := 41) dX8_settle_41 ic_1 ?_
        refine V_goto (pc := 42) (tgt := 46) dX8_settle_42 (by decide +kernel) ?_
        refine V_sub (vs' := [none, none]) (show vless _ _ from trivial) rfl ?_
        exact hJ46 (1 : Int32) a7_2
    · refine V_aload_n (pc := 13) dX8_settle_13 rfl rfl ?_
      refine V_getr (pc := 14) (t := 57) fk_X8_9 rfl dX8_settle_14 kc_56 rf_8_1_56 ?_
      refine V_iload_n (pc := 17) dX8_settle_17 rfl rfl ?_
      refine V_iconst (pc := 18) dX8_settle_18 ic_m1 ?_
      refine V_iast (pc := 19) (n := 8) dX8_settle_19 kc_57 lc_57 (fun s19 => ?_)
      refine V_iincC (pc := 20) (vs' := [some (.ref (wB w + 56)), some (.int (a7_1 + (1 : Int32)))]) dX8_settle_20 (Nat.le_of_ble_eq_true rfl) rfl ic_1 rfl ?_
      refine V_goto (pc := 23) (tgt := 7) dX8_settle_23 (by decide +kernel) ?_
      exact V_back (b7 ((a7_1 + (1 : Int32)), s19))
  refine V_aload_n (pc := 0) dX8_settle_0 rfl rfl ?_
  refine V_iconst (pc := 1) dX8_settle_1 ic_0 ?_
  refine V_puti (pc := 2) fp_X8_43 rfl dX8_settle_2 kc_56 rf_8_3_56 (fun s2 => ?_)
  refine V_iconst (pc := 5) dX8_settle_5 ic_0 ?_
  refine V_istore_n (pc := 6) (vs' := [some (.ref (wB w + 56)), some (.int (0 : Int32))]) dX8_settle_6 rfl (Nat.le_of_ble_eq_true rfl) (Nat.le_of_ble_eq_true rfl) rfl ?_
  exact hL7 n ((0 : Int32), s2)
def IH_gg (d : Nat) (r : RT_gg) : Prop := (∀ (w : TG) (p1 : Int32) (p2 : Int32) (σ : MS), MC (mr_X8_greatestFrom d) w [.ref (wB w + 56), .int p1, .int p2] σ ((r p1 p2 σ).map (fun r => (r, σ))))
def J_X8_greatestFrom_104 (r : RT_gg) (n : Nat) (v1 : Int32) (v2 : Int32) (v3 : Int32) (v4 : Int32) (σ : MS) : Option ((Int32 × Int32) ⊕ (Int32)) := some (.inl (v3, (v4 + (1 : Int32))))
def L_X8_greatestFrom_37 (r : RT_gg) (n : Nat) (v1 : Int32) (v2 : Int32) (σ : MS) (a37 : Int32 × Int32) : Option ((Int32 × Int32) ⊕ (Int32)) := (if (σ 3 0) ≤ a37.2 then (some a37.1).map Sum.inr else (if (v2 &&& (shlI (1 : Int32) a37.2)) = 0 then J_X8_greatestFrom_104 r n v1 v2 a37.1 a37.2 σ else ((f_X4_likingOf 3 v1 a37.2 σ).bind (fun q65 => ((f_X4_likingOf 3 a37.2 v1 σ).bind (fun q75 => ((r (v1 + (1 : Int32)) (v2 &&& ((shlI (1 : Int32) a37.2) ^^^ (-1 : Int32))) σ).bind (fun q96 => J_X8_greatestFrom_104 r n v1 v2 (mxI a37.1 ((q65 + q75) + q96)) a37.2 σ))))))))
def F_X8_greatestFrom (r : RT_gg) (n : Nat) (p1 : Int32) (p2 : Int32) (σ : MS) : Option (Int32) := (if p1 < (σ 3 0) then ((r (p1 + (1 : Int32)) p2 σ).bind (fun q18 => (if (p2 &&& (shlI (1 : Int32) p1)) = 0 then some q18 else itr (L_X8_greatestFrom_37 r n p1 p2 σ) n (q18, (p1 + (1 : Int32)))))) else some (0 : Int32))
set_option maxRecDepth 20000 in
set_option maxHeartbeats 2000000 in
theorem cst_X8_greatestFrom (n d : Nat) (r : RT_gg) (ih : IH_gg d r) (w : TG) (p1 : Int32) (p2 : Int32) (σ : MS) : MC (mr_X8_greatestFrom (d + 1)) w [.ref (wB w + 56), .int p1, .int p2] σ ((F_X8_greatestFrom r n p1 p2 σ).map (fun r => (r, σ))) := by
  refine V_methp (show plainName RX8 = true from by decide +kernel) (Nat.le_of_ble_eq_true rfl) (by intro v hv; simp only [List.mem_cons, List.not_mem_nil, or_false] at hv; rcases hv with rfl | rfl | rfl <;> rfl) (fun g x => ?_)
  show VV (mr_X8_greatestFrom (d + 1)) w g 0 0 (QM (mr_X8_greatestFrom (d + 1)) w g x) (fun b : Int32 => (b, σ) = x) 0 [some (.ref (wB w + 56)), some (.int p1), some (.int p2), none, none, none] [] σ (F_X8_greatestFrom r n p1 p2 σ)
  have hL37 : ∀  (n0 : Nat) (a : Int32 × Int32), VV (mr_X8_greatestFrom (d + 1)) w g 0 0 (QM (mr_X8_greatestFrom (d + 1)) w g x) (fun b : Int32 => (b, σ) = x) 37 [some (.ref (wB w + 56)), some (.int p1), some (.int p2), some (.int a.1), some (.int a.2), none] [] σ (itr (L_X8_greatestFrom_37 r n p1 p2 σ) n0 a) := by
    refine V_itr (vf := fun a : Int32 × Int32 => [some (.ref (wB w + 56)), some (.int p1), some (.int p2), some (.int a.1), some (.int a.2), none]) (sf := fun a : Int32 × Int32 => σ) (fun κ37 b37 r37 a37 => ?_)
    obtain ⟨a37_1, a37_2⟩ := a37
    show VV (mr_X8_greatestFrom (d + 1)) w g 0 0 (QM (mr_X8_greatestFrom (d + 1)) w g x) κ37 37 [some (.ref (wB w + 56)), some (.int p1), some (.int p2), some (.int a37_1), some (.int a37_2), none] [] σ (L_X8_greatestFrom_37 r n p1 p2 σ (a37_1, a37_2))
    have hJ104 : ∀ (v3 : Int32) (v4 : Int32), VV (mr_X8_greatestFrom (d + 1)) w g 0 0 (QM (mr_X8_greatestFrom (d + 1)) w g x) κ37 104 [some (.ref (wB w + 56)), some (.int p1), some (.int p2), some (.int v3), some (.int v4), none] [] σ (J_X8_greatestFrom_104 r n p1 p2 v3 v4 σ) := by
      intro v3 v4
      refine V_iincC (pc := 104) (vs' := [some (.ref (wB w + 56)), some (.int p1), some (.int p2), some (.int v3), some (.int (v4 + (1 : Int32))), none]) dX8_greatestFrom_104 (Nat.le_of_ble_eq_true rfl) rfl ic_1 rfl ?_
      refine V_goto (pc := 107) (tgt := 37) dX8_greatestFrom_107 (by decide +kernel) ?_
      exact V_back (b37 (v3, (v4 + (1 : Int32))))
    refine V_iload (pc := 37) dX8_greatestFrom_37 rfl ?_
    refine V_aload_n (pc := 39) dX8_greatestFrom_39 rfl rfl ?_
    refine V_getr (pc := 40) (t := 3) fk_X8_18 rfl dX8_greatestFrom_40 kc_56 rf_8_0_56 ?_
    refine V_geti (pc := 43) fk_X8_32 rfl dX8_greatestFrom_43 kc_3 rf_4_0_3 ?_
    refine V_icmp_ge (pc := 46) (tgt := 110) dX8_greatestFrom_46 (by decide +kernel) ?_ ?_
    · refine V_exit r37 ?_
      refine V_iload_n (pc := 110) dX8_greatestFrom_110 rfl rfl ?_
      exact V_ireti (pc := 111) dX8_greatestFrom_111 rfl (hk := fun h => h)
    · refine V_iload_n (pc := 49) dX8_greatestFrom_49 rfl rfl ?_
      refine V_iconst (pc := 50) dX8_greatestFrom_50 ic_1 ?_
      refine V_iload (pc := 51) dX8_greatestFrom_51 rfl ?_
      refine V_ishl (pc := 53) dX8_greatestFrom_53 ?_
      refine V_iand (pc := 54) dX8_greatestFrom_54 ?_
      refine V_if_eq (pc := 55) (tgt := 104) dX8_greatestFrom_55 (by decide +kernel) ?_ ?_
      · exact hJ104 a37_1 a37_2
      · refine V_aload_n (pc := 58) dX8_greatestFrom_58 rfl rfl ?_
        refine V_getr (pc := 59) (t := 3) fk_X8_18 rfl dX8_greatestFrom_59 kc_56 rf_8_0_56 ?_
        refine V_iload_n (pc := 62) dX8_greatestFrom_62 rfl rfl ?_
        refine V_iload (pc := 63) dX8_greatestFrom_63 rfl ?_
        refine V_callVpi (pc := 65) (As := [.int p1, .int a37_2]) (rest := []) (c_X4_likingOf w 3 p1 a37_2 kc_3 σ) cw_X8_28 rfl rfl dX8_greatestFrom_65 kc_3 ci_4 ⟨by simp only [mr_X8_greatestFrom, m_X4_likingOf]; omega, by simp only [mr_X8_greatestFrom, m_X4_likingOf]; omega⟩ rfl rfl (Nat.le_of_ble_eq_true rfl) (Nat.le_of_ble_eq_true rfl) (Nat.le_of_ble_eq_true rfl) rfl (fun q65 => ?_)
        refine V_aload_n (pc := 68) dX8_greatestFrom_68 rfl rfl ?_
        refine V_getr (pc := 69) (t := 3) fk_X8_18 rfl dX8_greatestFrom_69 kc_56 rf_8_0_56 ?_
        refine V_iload (pc := 72) dX8_greatestFrom_72 rfl ?_
        refine V_iload_n (pc := 74) dX8_greatestFrom_74 rfl rfl ?_
        refine V_callVpi (pc := 75) (As := [.int a37_2, .int p1]) (rest := [.int q65]) (c_X4_likingOf w 3 a37_2 p1 kc_3 σ) cw_X8_28 rfl rfl dX8_greatestFrom_75 kc_3 ci_4 ⟨by simp only [mr_X8_greatestFrom, m_X4_likingOf]; omega, by simp only [mr_X8_greatestFrom, m_X4_likingOf]; omega⟩ rfl rfl (Nat.le_of_ble_eq_true rfl) (Nat.le_of_ble_eq_true rfl) (Nat.le_of_ble_eq_true rfl) rfl (fun q75 => ?_)
        refine V_iadd (pc := 78) dX8_greatestFrom_78 ?_
        refine V_istore (pc := 79) (vs' := [some (.ref (wB w + 56)), some (.int p1), some (.int p2), some (.int a37_1), some (.int a37_2), some (.int (q65 + q75))]) dX8_greatestFrom_79 (Nat.le_of_ble_eq_true rfl) (Nat.le_of_ble_eq_true rfl) rfl ?_
        refine V_iload_n (pc := 81) dX8_greatestFrom_81 rfl rfl ?_
        refine V_iload (pc := 82) dX8_greatestFrom_82 rfl ?_
        refine V_aload_n (pc := 84) dX8_greatestFrom_84 rfl rfl ?_
        refine V_iload_n (pc := 85) dX8_greatestFrom_85 rfl rfl ?_
        refine V_iconst (pc := 86) dX8_greatestFrom_86 ic_1 ?_
        refine V_iadd (pc := 87) dX8_greatestFrom_87 ?_
        refine V_iload_n (pc := 88) dX8_greatestFrom_88 rfl rfl ?_
        refine V_iconst (pc := 89) dX8_greatestFrom_89 ic_1 ?_
        refine V_iload (pc := 90) dX8_greatestFrom_90 rfl ?_
        refine V_ishl (pc := 92) dX8_greatestFrom_92 ?_
        refine V_iconst (pc := 93) dX8_greatestFrom_93 ic_m1 ?_
        refine V_ixor (pc := 94) dX8_greatestFrom_94 ?_
        refine V_iand (pc := 95) dX8_greatestFrom_95 ?_
        refine V_callVpi (pc := 96) (As := [.int (p1 + (1 : Int32)), .int (p2 &&& ((shlI (1 : Int32) a37_2) ^^^ (-1 : Int32)))]) (rest := [.int (q65 + q75), .int a37_1]) (ih w (p1 + (1 : Int32)) (p2 &&& ((shlI (1 : Int32) a37_2) ^^^ (-1 : Int32))) σ) cw_X8_66 rfl rfl dX8_greatestFrom_96 kc_56 ci_8 ⟨by simp only [mr_X8_greatestFrom, mr_X8_greatestFrom]; omega, by simp only [mr_X8_greatestFrom, mr_X8_greatestFrom]; omega⟩ rfl rfl (Nat.le_of_ble_eq_true rfl) (Nat.le_of_ble_eq_true rfl) (Nat.le_of_ble_eq_true rfl) rfl (fun q96 => ?_)
        refine V_iadd (pc := 99) dX8_greatestFrom_99 ?_
        refine V_mmax (pc := 100) dX8_greatestFrom_100 rfl mw_X8_69 (Nat.le_of_ble_eq_true rfl) (Nat.le_of_ble_eq_true rfl) (Nat.le_of_ble_eq_true rfl) (Nat.le_of_ble_eq_true rfl) ?_
        refine V_istore_n (pc := 103) (vs' := [some (.ref (wB w + 56)), some (.int p1), some (.int p2), some (.int (mxI a37_1 ((q65 + q75) + q96))), some (.int a37_2), some (.int (q65 + q75))]) dX8_greatestFrom_103 rfl (Nat.le_of_ble_eq_true rfl) (Nat.le_of_ble_eq_true rfl) rfl ?_
        refine V_sub (vs' := [some (.ref (wB w + 56)), some (.int p1), some (.int p2), some (.int (mxI a37_1 ((q65 + q75) + q96))), some (.int a37_2), none]) (show vless _ _ from ⟨rfl, ⟨rfl, ⟨rfl, ⟨rfl, ⟨rfl, trivial⟩⟩⟩⟩⟩) rfl ?_
        exact hJ104 (mxI a37_1 ((q65 + q75) + q96)) a37_2
  refine V_iload_n (pc := 0) dX8_greatestFrom_0 rfl rfl ?_
  refine V_aload_n (pc := 1) dX8_greatestFrom_1 rfl rfl ?_
  refine V_getr (pc := 2) (t := 3) fk_X8_18 rfl dX8_greatestFrom_2 kc_56 rf_8_0_56 ?_
  refine V_geti (pc := 5) fk_X8_32 rfl dX8_greatestFrom_5 kc_3 rf_4_0_3 ?_
  refine V_icmp_lt (pc := 8) (tgt := 13) dX8_greatestFrom_8 (by decide +kernel) ?_ ?_
  · refine V_aload_n (pc := 13) dX8_greatestFrom_13 rfl rfl ?_
    refine V_iload_n (pc := 14) dX8_greatestFrom_14 rfl rfl ?_
    refine V_iconst (pc := 15) dX8_greatestFrom_15 ic_1 ?_
    refine V_iadd (pc := 16) dX8_greatestFrom_16 ?_
    refine V_iload_n (pc := 17) dX8_greatestFrom_17 rfl rfl ?_
    refine V_callVpi (pc := 18) (As := [.int (p1 + (1 : Int32)), .int p2]) (rest := []) (ih w (p1 + (1 : Int32)) p2 σ) cw_X8_66 rfl rfl dX8_greatestFrom_18 kc_56 ci_8 ⟨by simp only [mr_X8_greatestFrom, mr_X8_greatestFrom]; omega, by simp only [mr_X8_greatestFrom, mr_X8_greatestFrom]; omega⟩ rfl rfl (Nat.le_of_ble_eq_true rfl) (Nat.le_of_ble_eq_true rfl) (Nat.le_of_ble_eq_true rfl) rfl (fun q18 => ?_)
    refine V_istore_n (pc := 21) (vs' := [some (.ref (wB w + 56)), some (.int p1), some (.int p2), some (.int q18), none, none]) dX8_greatestFrom_21 rfl (Nat.le_of_ble_eq_true rfl) (Nat.le_of_ble_eq_true rfl) rfl ?_
    refine V_iload_n (pc := 22) dX8_greatestFrom_22 rfl rfl ?_
    refine V_iconst (pc := 23) dX8_greatestFrom_23 ic_1 ?_
    refine V_iload_n (pc := 24) dX8_greatestFrom_24 rfl rfl ?_
    refine V_ishl (pc := 25) dX8_greatestFrom_25 ?_
    refine V_iand (pc := 26) dX8_greatestFrom_26 ?_
    refine V_if_ne (pc := 27) (tgt := 32) dX8_greatestFrom_27 (by decide +kernel) ?_ ?_
    · refine V_iload_n (pc := 32) dX8_greatestFrom_32 rfl rfl ?_
      refine V_iconst (pc := 33) dX8_greatestFrom_33 ic_1 ?_
      refine V_iadd (pc := 34) dX8_greatestFrom_34 ?_
      refine V_istore (pc := 35) (vs' := [some (.ref (wB w + 56)), some (.int p1), some (.int p2), some (.int q18), some (.int (p1 + (1 : Int32))), none]) dX8_greatestFrom_35 (Nat.le_of_ble_eq_true rfl) (Nat.le_of_ble_eq_true rfl) rfl ?_
      exact hL37 n (q18, (p1 + (1 : Int32)))
    · refine V_iload_n (pc := 30) dX8_greatestFrom_30 rfl rfl ?_
      exact V_ireti (pc := 31) dX8_greatestFrom_31 rfl (hk := fun h => h)
  · refine V_iconst (pc := 11) dX8_greatestFrom_11 ic_0 ?_
    exact V_ireti (pc := 12) dX8_greatestFrom_12 rfl (hk := fun h => h)
def G_gg (n : Nat) : Nat → RT_gg
  | 0 => ((fun _ _ _ => none))
  | d + 1 => (F_X8_greatestFrom (G_gg n d) n)
theorem cg_gg (n : Nat) : ∀ d, IH_gg d (G_gg n d) := by
  intro d
  induction d with
  | zero =>
    unfold IH_gg
    exact (fun _ _ _ _ _ _ _ h => by cases h)
  | succ d ih =>
    unfold IH_gg
    exact cst_X8_greatestFrom n d _ ih
def f_X8_greatestFrom (n : Nat) (p1 : Int32) (p2 : Int32) (σ : MS) : Option (Int32) := (G_gg n 30) p1 p2 σ
theorem c_X8_greatestFrom (w : TG) (n : Nat) (p1 : Int32) (p2 : Int32) (σ : MS) : MC m_X8_greatestFrom w [.ref (wB w + 56), .int p1, .int p2] σ ((f_X8_greatestFrom n p1 p2 σ).map (fun r => (r, σ))) := (cg_gg n 30) w p1 p2 σ
def f_X8_greatest (n : Nat)  (σ : MS) : Option (Int32) := ((f_X4_everybody 3 σ).bind (fun q6 => ((f_X8_greatestFrom n (0 : Int32) q6 σ).bind (fun q9 => some q9))))
set_option maxRecDepth 20000 in
set_option maxHeartbeats 2000000 in
theorem c_X8_greatest (w : TG) (n : Nat)  (σ : MS) : MC m_X8_greatest w [.ref (wB w + 56)] σ ((f_X8_greatest n  σ).map (fun r => (r, σ))) := by
  refine V_methp (by decide +kernel) (Nat.le_of_ble_eq_true rfl) (by intro v hv; simp only [List.mem_cons, List.not_mem_nil, or_false] at hv; subst hv; rfl) (fun g x => ?_)
  show VV m_X8_greatest w g 0 0 (QM m_X8_greatest w g x) (fun b : Int32 => (b, σ) = x) 0 [some (.ref (wB w + 56))] [] σ (f_X8_greatest n  σ)
  refine V_aload_n (pc := 0) dX8_greatest_0 rfl rfl ?_
  refine V_iconst (pc := 1) dX8_greatest_1 ic_0 ?_
  refine V_aload_n (pc := 2) dX8_greatest_2 rfl rfl ?_
  refine V_getr (pc := 3) (t := 3) fk_X8_18 rfl dX8_greatest_3 kc_56 rf_8_0_56 ?_
  refine V_callVpi (pc := 6) (As := []) (rest := [.int (0 : Int32), .ref (wB w + 56)]) (c_X4_everybody w 3 kc_3 σ) cw_X8_62 rfl rfl dX8_greatest_6 kc_3 ci_4 ⟨Nat.le_of_ble_eq_true rfl, Nat.le_of_ble_eq_true rfl⟩ rfl rfl (Nat.le_of_ble_eq_true rfl) (Nat.le_of_ble_eq_true rfl) (Nat.le_of_ble_eq_true rfl) rfl (fun q6 => ?_)
  refine V_callVpi (pc := 9) (As := [.int (0 : Int32), .int q6]) (rest := []) (c_X8_greatestFrom w n (0 : Int32) q6 σ) cw_X8_66 rfl rfl dX8_greatest_9 kc_56 ci_8 ⟨Nat.le_of_ble_eq_true rfl, Nat.le_of_ble_eq_true rfl⟩ rfl rfl (Nat.le_of_ble_eq_true rfl) (Nat.le_of_ble_eq_true rfl) (Nat.le_of_ble_eq_true rfl) rfl (fun q9 => ?_)
  exact V_ireti (pc := 12) dX8_greatest_12 rfl (hk := fun h => h)
