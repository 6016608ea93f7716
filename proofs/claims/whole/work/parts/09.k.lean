def stepOp (n : Nat) (op x1 x2 x3 x4 x5 : Int32) (σ : MS) : Option MS := (if op = (0 : Int32) then step_0 n x1 x2 x3 x4 x5 σ else (if op = (1 : Int32) then step_1 n x1 x2 x3 x4 x5 σ else (if op = (2 : Int32) then step_2 n x1 x2 x3 x4 x5 σ else (if op = (3 : Int32) then step_3 n x1 x2 x3 x4 x5 σ else (if op = (4 : Int32) then step_4 n x1 x2 x3 x4 x5 σ else (if op = (5 : Int32) then step_5 n x1 x2 x3 x4 x5 σ else (if op = (6 : Int32) then step_6 n x1 x2 x3 x4 x5 σ else (if op = (7 : Int32) then step_7 n x1 x2 x3 x4 x5 σ else (if op = (8 : Int32) then step_8 n x1 x2 x3 x4 x5 σ else (if op = (9 : Int32) then step_9 n x1 x2 x3 x4 x5 σ else (if op = (10 : Int32) then step_10 n x1 x2 x3 x4 x5 σ else (if op = (11 : Int32) then step_11 n x1 x2 x3 x4 x5 σ else (if op = (12 : Int32) then step_12 n x1 x2 x3 x4 x5 σ else (if op = (13 : Int32) then step_13 n x1 x2 x3 x4 x5 σ else (if op = (14 : Int32) then step_14 n x1 x2 x3 x4 x5 σ else (if op = (15 : Int32) then step_15 n x1 x2 x3 x4 x5 σ else (if op = (16 : Int32) then step_16 n x1 x2 x3 x4 x5 σ else (if op = (17 : Int32) then step_17 n x1 x2 x3 x4 x5 σ else (if op = (18 : Int32) then step_18 n x1 x2 x3 x4 x5 σ else (if op = (19 : Int32) then step_19 n x1 x2 x3 x4 x5 σ else (if op = (20 : Int32) then step_20 n x1 x2 x3 x4 x5 σ else (if op = (21 : Int32) then step_21 n x1 x2 x3 x4 x5 σ else (if op = (22 : Int32) then step_22 n x1 x2 x3 x4 x5 σ else (if op = (23 : Int32) then step_23 n x1 x2 x3 x4 x5 σ else (if op = (24 : Int32) then step_24 n x1 x2 x3 x4 x5 σ else (if op = (25 : Int32) then step_25 n x1 x2 x3 x4 x5 σ else (if op = (26 : Int32) then step_26 n x1 x2 x3 x4 x5 σ else (if op = (27 : Int32) then step_27 n x1 x2 x3 x4 x5 σ else (if op = (28 : Int32) then step_28 n x1 x2 x3 x4 x5 σ else (if op = (29 : Int32) then step_29 n x1 x2 x3 x4 x5 σ else (if op = (30 : Int32) then step_30 n x1 x2 x3 x4 x5 σ else (if op = (31 : Int32) then step_31 n x1 x2 x3 x4 x5 σ else (if op = (32 : Int32) then step_32 n x1 x2 x3 x4 x5 σ else (if op = (33 : Int32) then step_33 n x1 x2 x3 x4 x5 σ else (if op = (34 : Int32) then step_34 n x1 x2 x3 x4 x5 σ else (if op = (35 : Int32) then step_35 n x1 x2 x3 x4 x5 σ else (if op = (36 : Int32) then step_36 n x1 x2 x3 x4 x5 σ else (if op = (37 : Int32) then step_37 n x1 x2 x3 x4 x5 σ else (if op = (38 : Int32) then step_38 n x1 x2 x3 x4 x5 σ else (if op = (39 : Int32) then step_39 n x1 x2 x3 x4 x5 σ else (if op = (40 : Int32) then step_40 n x1 x2 x3 x4 x5 σ else (if op = (41 : Int32) then step_41 n x1 x2 x3 x4 x5 σ else (if op = (42 : Int32) then step_42 n x1 x2 x3 x4 x5 σ else (if op = (43 : Int32) then step_43 n x1 x2 x3 x4 x5 σ else (if op = (44 : Int32) then step_44 n x1 x2 x3 x4 x5 σ else (if op = (45 : Int32) then step_45 n x1 x2 x3 x4 x5 σ else (if op = (46 : Int32) then step_46 n x1 x2 x3 x4 x5 σ else (if op = (47 : Int32) then step_47 n x1 x2 x3 x4 x5 σ else (if op = (48 : Int32) then step_48 n x1 x2 x3 x4 x5 σ else some σ)))))))))))))))))))))))))))))))))))))))))))))))))
set_option maxRecDepth 20000 in
set_option maxHeartbeats 2000000 in
theorem v_switch (w : TG) (g : VG) (kc ks : Nat) (Q : State → Prop) (n b0 L : Nat) (xs : Nat → Int32) (i op x1 x2 x3 x4 x5 : Int32) (hkc : kc + 40 ≤ 601024) (hks : ks + 240 ≤ 7293034) (hX : va_X b0 L xs (gS g) (gS g).heap) (hb0 : b0 < (gS g).heap.size) (hbA : ¬ wA w b0) (hi1 : inb (i + (1 : Int32)) L = true) (hx1 : xs (ix (i + (1 : Int32))) = x1) (hi2 : inb (i + (2 : Int32)) L = true) (hx2 : xs (ix (i + (2 : Int32))) = x2) (hi3 : inb (i + (3 : Int32)) L = true) (hx3 : xs (ix (i + (3 : Int32))) = x3) (hi4 : inb (i + (4 : Int32)) L = true) (hx4 : xs (ix (i + (4 : Int32))) = x4) (hi5 : inb (i + (5 : Int32)) L = true) (hx5 : xs (ix (i + (5 : Int32))) = x5) (σ : MS) : VV m_L_law_ w g kc ks Q (fun s => VH m_L_law_ w g (kc + 20) (ks + 120) Q 2895 [some (.ref b0), some (.ref (wB w + 0)), some (.ref (wB w + 171)), some (.ref (wB w + 183)), some (.int i), none, none] [] s) 40 [some (.ref b0), some (.ref (wB w + 0)), some (.ref (wB w + 171)), some (.ref (wB w + 183)), some (.int i), none, none] [.int op] σ (stepOp n op x1 x2 x3 x4 x5 σ) := by
  unfold stepOp
  refine V_ite (c := op = (0 : Int32)) (fun hx => ?_) (fun hx00 => ?_)
  · refine V_tabIn (pc := 40) (x := op) (off := 212) (tgt := 252) dL_law__40 (by rw [hx]; decide +kernel) (by rw [hx]; decide +kernel) (by rw [hx]; decide +kernel) (by decide +kernel) ?_
    exact v_case_0 w g kc ks Q n b0 L xs i x1 x2 x3 x4 x5 hkc hks hX hb0 hbA hi1 hx1 hi2 hx2 hi3 hx3 hi4 hx4 hi5 hx5 σ
  refine V_ite (c := op = (1 : Int32)) (fun hx => ?_) (fun hx10 => ?_)
  · refine V_tabIn (pc := 40) (x := op) (off := 285) (tgt := 325) dL_law__40 (by rw [hx]; decide +kernel) (by rw [hx]; decide +kernel) (by rw [hx]; decide +kernel) (by decide +kernel) ?_
    exact v_case_1 w g kc ks Q n b0 L xs i x1 x2 x3 x4 x5 hkc hks hX hb0 hbA hi1 hx1 hi2 hx2 hi3 hx3 hi4 hx4 hi5 hx5 σ
  refine V_ite (c := op = (2 : Int32)) (fun hx => ?_) (fun hx20 => ?_)
  · refine V_tabIn (pc := 40) (x := op) (off := 310) (tgt := 350) dL_law__40 (by rw [hx]; decide +kernel) (by rw [hx]; decide +kernel) (by rw [hx]; decide +kernel) (by decide +kernel) ?_
    exact v_case_2 w g kc ks Q n b0 L xs i x1 x2 x3 x4 x5 hkc hks hX hb0 hbA hi1 hx1 hi2 hx2 hi3 hx3 hi4 hx4 hi5 hx5 σ
  refine V_ite (c := op = (3 : Int32)) (fun hx => ?_) (fun hx30 => ?_)
  · refine V_tabIn (pc := 40) (x := op) (off := 354) (tgt := 394) dL_law__40 (by rw [hx]; decide +kernel) (by rw [hx]; decide +kernel) (by rw [hx]; decide +kernel) (by decide +kernel) ?_
    exact v_case_3 w g kc ks Q n b0 L xs i x1 x2 x3 x4 x5 hkc hks hX hb0 hbA hi1 hx1 hi2 hx2 hi3 hx3 hi4 hx4 hi5 hx5 σ
  refine V_ite (c := op = (4 : Int32)) (fun hx => ?_) (fun hx40 => ?_)
  · refine V_tabIn (pc := 40) (x := op) (off := 398) (tgt := 438) dL_law__40 (by rw [hx]; decide +kernel) (by rw [hx]; decide +kernel) (by rw [hx]; decide +kernel) (by decide +kernel) ?_
    exact v_case_4 w g kc ks Q n b0 L xs i x1 x2 x3 x4 x5 hkc hks hX hb0 hbA hi1 hx1 hi2 hx2 hi3 hx3 hi4 hx4 hi5 hx5 σ
  refine V_ite (c := op = (5 : Int32)) (fun hx => ?_) (fun hx50 => ?_)
  · refine V_tabIn (pc := 40) (x := op) (off := 411) (tgt := 451) dL_law__40 (by rw [hx]; decide +kernel) (by rw [hx]; decide +kernel) (by rw [hx]; decide +kernel) (by decide +kernel) ?_
    exact v_case_5 w g kc ks Q n b0 L xs i x1 x2 x3 x4 x5 hkc hks hX hb0 hbA hi1 hx1 hi2 hx2 hi3 hx3 hi4 hx4 hi5 hx5 σ
  refine V_ite (c := op = (6 : Int32)) (fun hx => ?_) (fun hx60 => ?_)
  · refine V_tabIn (pc := 40) (x := op) (off := 479) (tgt := 519) dL_law__40 (by rw [hx]; decide +kernel) (by rw [hx]; decide +kernel) (by rw [hx]; decide +kernel) (by decide +kernel) ?_
    exact v_case_6 w g kc ks Q n b0 L xs i x1 x2 x3 x4 x5 hkc hks hX hb0 hbA hi1 hx1 hi2 hx2 hi3 hx3 hi4 hx4 hi5 hx5 σ
  refine V_ite (c := op = (7 : Int32)) (fun hx => ?_) (fun hx70 => ?_)
  · refine V_tabIn (pc := 40) (x := op) (off := 547) (tgt := 587) dL_law__40 (by rw [hx]; decide +kernel) (by rw [hx]; decide +kernel) (by rw [hx]; decide +kernel) (by decide +kernel) ?_
    exact v_case_7 w g kc ks Q n b0 L xs i x1 x2 x3 x4 x5 hkc hks hX hb0 hbA hi1 hx1 hi2 hx2 hi3 hx3 hi4 hx4 hi5 hx5 σ
  refine V_ite (c := op = (8 : Int32)) (fun hx => ?_) (fun hx80 => ?_)
  · refine V_tabIn (pc := 40) (x := op) (off := 643) (tgt := 683) dL_law__40 (by rw [hx]; decide +kernel) (by rw [hx]; decide +kernel) (by rw [hx]; decide +kernel) (by decide +kernel) ?_
    exact v_case_8 w g kc ks Q n b0 L xs i x1 x2 x3 x4 x5 hkc hks hX hb0 hbA hi1 hx1 hi2 hx2 hi3 hx3 hi4 hx4 hi5 hx5 σ
  refine V_ite (c := op = (9 : Int32)) (fun hx => ?_) (fun hx90 => ?_)
  · refine V_tabIn (pc := 40) (x := op) (off := 747) (tgt := 787) dL_law__40 (by rw [hx]; decide +kernel) (by rw [hx]; decide +kernel) (by rw [hx]; decide +kernel) (by decide +kernel) ?_
    exact v_case_9 w g kc ks Q n b0 L xs i x1 x2 x3 x4 x5 hkc hks hX hb0 hbA hi1 hx1 hi2 hx2 hi3 hx3 hi4 hx4 hi5 hx5 σ
  refine V_ite (c := op = (10 : Int32)) (fun hx => ?_) (fun hx100 => ?_)
  · refine V_tabIn (pc := 40) (x := op) (off := 815) (tgt := 855) dL_law__40 (by rw [hx]; decide +kernel) (by rw [hx]; decide +kernel) (by rw [hx]; decide +kernel) (by decide +kernel) ?_
    exact v_case_10 w g kc ks Q n b0 L xs i x1 x2 x3 x4 x5 hkc hks hX hb0 hbA hi1 hx1 hi2 hx2 hi3 hx3 hi4 hx4 hi5 hx5 σ
  refine V_ite (c := op = (11 : Int32)) (fun hx => ?_) (fun hx110 => ?_)
  · refine V_tabIn (pc := 40) (x := op) (off := 883) (tgt := 923) dL_law__40 (by rw [hx]; decide +kernel) (by rw [hx]; decide +kernel) (by rw [hx]; decide +kernel) (by decide +kernel) ?_
    exact v_case_11 w g kc ks Q n b0 L xs i x1 x2 x3 x4 x5 hkc hks hX hb0 hbA hi1 hx1 hi2 hx2 hi3 hx3 hi4 hx4 hi5 hx5 σ
  refine V_ite (c := op = (12 : Int32)) (fun hx => ?_) (fun hx120 => ?_)
  · refine V_tabIn (pc := 40) (x := op) (off := 951) (tgt := 991) dL_law__40 (by rw [hx]; decide +kernel) (by rw [hx]; decide +kernel) (by rw [hx]; decide +kernel) (by decide +kernel) ?_
    exact v_case_12 w g kc ks Q n b0 L xs i x1 x2 x3 x4 x5 hkc hks hX hb0 hbA hi1 hx1 hi2 hx2 hi3 hx3 hi4 hx4 hi5 hx5 σ
  refine V_ite (c := op = (13 : Int32)) (fun hx => ?_) (fun hx130 => ?_)
  · refine V_tabIn (pc := 40) (x := op) (off := 1042) (tgt := 1082) dL_law__40 (by rw [hx]; decide +kernel) (by rw [hx]; decide +kernel) (by rw [hx]; decide +kernel) (by decide +kernel) ?_
    exact v_case_13 w g kc ks Q n b0 L xs i x1 x2 x3 x4 x5 hkc hks hX hb0 hbA hi1 hx1 hi2 hx2 hi3 hx3 hi4 hx4 hi5 hx5 σ
  refine V_ite (c := op = (14 : Int32)) (fun hx => ?_) (fun hx140 => ?_)
  · refine V_tabIn (pc := 40) (x := op) (off := 1090) (tgt := 1130) dL_law__40 (by rw [hx]; decide +kernel) (by rw [hx]; decide +kernel) (by rw [hx]; decide +kernel) (by decide +kernel) ?_
    exact v_case_14 w g kc ks Q n b0 L xs i x1 x2 x3 x4 x5 hkc hks hX hb0 hbA hi1 hx1 hi2 hx2 hi3 hx3 hi4 hx4 hi5 hx5 σ
  refine V_ite (c := op = (15 : Int32)) (fun hx => ?_) (fun hx150 => ?_)
  · refine V_tabIn (pc := 40) (x := op) (off := 1146) (tgt := 1186) dL_law__40 (by rw [hx]; decide +kernel) (by rw [hx]; decide +kernel) (by rw [hx]; decide +kernel) (by decide +kernel) ?_
    exact v_case_15 w g kc ks Q n b0 L xs i x1 x2 x3 x4 x5 hkc hks hX hb0 hbA hi1 hx1 hi2 hx2 hi3 hx3 hi4 hx4 hi5 hx5 σ
  refine V_ite (c := op = (16 : Int32)) (fun hx => ?_) (fun hx160 => ?_)
  · refine V_tabIn (pc := 40) (x := op) (off := 1202) (tgt := 1242) dL_law__40 (by rw [hx]; decide +kernel) (by rw [hx]; decide +kernel) (by rw [hx]; decide +kernel) (by decide +kernel) ?_
    exact v_case_16 w g kc ks Q n b0 L xs i x1 x2 x3 x4 x5 hkc hks hX hb0 hbA hi1 hx1 hi2 hx2 hi3 hx3 hi4 hx4 hi5 hx5 σ
  refine V_ite (c := op = (17 : Int32)) (fun hx => ?_) (fun hx170 => ?_)
  · refine V_tabIn (pc := 40) (x := op) (off := 1215) (tgt := 1255) dL_law__40 (by rw [hx]; decide +kernel) (by rw [hx]; decide +kernel) (by rw [hx]; decide +kernel) (by decide +kernel) ?_
    exact v_case_17 w g kc ks Q n b0 L xs i x1 x2 x3 x4 x5 hkc hks hX hb0 hbA hi1 hx1 hi2 hx2 hi3 hx3 hi4 hx4 hi5 hx5 σ
  refine V_ite (c := op = (18 : Int32)) (fun hx => ?_) (fun hx180 => ?_)
  · refine V_tabIn (pc := 40) (x := op) (off := 1228) (tgt := 1268) dL_law__40 (by rw [hx]; decide +kernel) (by rw [hx]; decide +kernel) (by rw [hx]; decide +kernel) (by decide +kernel) ?_
    exact v_case_18 w g kc ks Q n b0 L xs i x1 x2 x3 x4 x5 hkc hks hX hb0 hbA hi1 hx1 hi2 hx2 hi3 hx3 hi4 hx4 hi5 hx5 σ
  refine V_ite (c := op = (19 : Int32)) (fun hx => ?_) (fun hx190 => ?_)
  · refine V_tabIn (pc := 40) (x := op) (off := 1284) (tgt := 1324) dL_law__40 (by rw [hx]; decide +kernel) (by rw [hx]; decide +kernel) (by rw [hx]; decide +kernel) (by decide +kernel) ?_
    exact v_case_19 w g kc ks Q n b0 L xs i x1 x2 x3 x4 x5 hkc hks hX hb0 hbA hi1 hx1 hi2 hx2 hi3 hx3 hi4 hx4 hi5 hx5 σ
  refine V_ite (c := op = (20 : Int32)) (fun hx => ?_) (fun hx200 => ?_)
  · refine V_tabIn (pc := 40) (x := op) (off := 1297) (tgt := 1337) dL_law__40 (by rw [hx]; decide +kernel) (by rw [hx]; decide +kernel) (by rw [hx]; decide +kernel) (by decide +kernel) ?_
    exact v_case_20 w g kc ks Q n b0 L xs i x1 x2 x3 x4 x5 hkc hks hX hb0 hbA hi1 hx1 hi2 hx2 hi3 hx3 hi4 hx4 hi5 hx5 σ
  refine V_ite (c := op = (21 : Int32)) (fun hx => ?_) (fun hx210 => ?_)
  · refine V_tabIn (pc := 40) (x := op) (off := 1365) (tgt := 1405) dL_law__40 (by rw [hx]; decide +kernel) (by rw [hx]; decide +kernel) (by rw [hx]; decide +kernel) (by decide +kernel) ?_
    exact v_case_21 w g kc ks Q n b0 L xs i x1 x2 x3 x4 x5 hkc hks hX hb0 hbA hi1 hx1 hi2 hx2 hi3 hx3 hi4 hx4 hi5 hx5 σ
  refine V_ite (c := op = (22 : Int32)) (fun hx => ?_) (fun hx220 => ?_)
  · refine V_tabIn (pc := 40) (x := op) (off := 1433) (tgt := 1473) dL_law__40 (by rw [hx]; decide +kernel) (by rw [hx]; decide +kernel) (by rw [hx]; decide +kernel) (by decide +kernel) ?_
    exact v_case_22 w g kc ks Q n b0 L xs i x1 x2 x3 x4 x5 hkc hks hX hb0 hbA hi1 hx1 hi2 hx2 hi3 hx3 hi4 hx4 hi5 hx5 σ
  refine V_ite (c := op = (23 : Int32)) (fun hx => ?_) (fun hx230 => ?_)
  · refine V_tabIn (pc := 40) (x := op) (off := 1501) (tgt := 1541) dL_law__40 (by rw [hx]; decide +kernel) (by rw [hx]; decide +kernel) (by rw [hx]; decide +kernel) (by decide +kernel) ?_
    exact v_case_23 w g kc ks Q n b0 L xs i x1 x2 x3 x4 x5 hkc hks hX hb0 hbA hi1 hx1 hi2 hx2 hi3 hx3 hi4 hx4 hi5 hx5 σ
  refine V_ite (c := op = (24 : Int32)) (fun hx => ?_) (fun hx240 => ?_)
  · refine V_tabIn (pc := 40) (x := op) (off := 1542) (tgt := 1582) dL_law__40 (by rw [hx]; decide +kernel) (by rw [hx]; decide +kernel) (by rw [hx]; decide +kernel) (by decide +kernel) ?_
    exact v_case_24 w g kc ks Q n b0 L xs i x1 x2 x3 x4 x5 hkc hks hX hb0 hbA hi1 hx1 hi2 hx2 hi3 hx3 hi4 hx4 hi5 hx5 σ
  refine V_ite (c := op = (25 : Int32)) (fun hx => ?_) (fun hx250 => ?_)
  · refine V_tabIn (pc := 40) (x := op) (off := 1598) (tgt := 1638) dL_law__40 (by rw [hx]; decide +kernel) (by rw [hx]; decide +kernel) (by rw [hx]; decide +kernel) (by decide +kernel) ?_
    exact v_case_25 w g kc ks Q n b0 L xs i x1 x2 x3 x4 x5 hkc hks hX hb0 hbA hi1 hx1 hi2 hx2 hi3 hx3 hi4 hx4 hi5 hx5 σ
  refine V_ite (c := op = (26 : Int32)) (fun hx => ?_) (fun hx260 => ?_)
  · refine V_tabIn (pc := 40) (x := op) (off := 1611) (tgt := 1651) dL_law__40 (by rw [hx]; decide +kernel) (by rw [hx]; decide +kernel) (by rw [hx]; decide +kernel) (by decide +kernel) ?_
    exact v_case_26 w g kc ks Q n b0 L xs i x1 x2 x3 x4 x5 hkc hks hX hb0 hbA hi1 hx1 hi2 hx2 hi3 hx3 hi4 hx4 hi5 hx5 σ
  refine V_ite (c := op = (27 : Int32)) (fun hx => ?_) (fun hx270 => ?_)
  · refine V_tabIn (pc := 40) (x := op) (off := 1624) (tgt := 1664) dL_law__40 (by rw [hx]; decide +kernel) (by rw [hx]; decide +kernel) (by rw [hx]; decide +kernel) (by decide +kernel) ?_
    exact v_case_27 w g kc ks Q n b0 L xs i x1 x2 x3 x4 x5 hkc hks hX hb0 hbA hi1 hx1 hi2 hx2 hi3 hx3 hi4 hx4 hi5 hx5 σ
  refine V_ite (c := op = (28 : Int32)) (fun hx => ?_) (fun hx280 => ?_)
  · refine V_tabIn (pc := 40) (x := op) (off := 1692) (tgt := 1732) dL_law__40 (by rw [hx]; decide +kernel) (by rw [hx]; decide +kernel) (by rw [hx]; decide +kernel) (by decide +kernel) ?_
    exact v_case_28 w g kc ks Q n b0 L xs i x1 x2 x3 x4 x5 hkc hks hX hb0 hbA hi1 hx1 hi2 hx2 hi3 hx3 hi4 hx4 hi5 hx5 σ
  refine V_ite (c := op = (29 : Int32)) (fun hx => ?_) (fun hx290 => ?_)
  · refine V_tabIn (pc := 40) (x := op) (off := 1705) (tgt := 1745) dL_law__40 (by rw [hx]; decide +kernel) (by rw [hx]; decide +kernel) (by rw [hx]; decide +kernel) (by decide +kernel) ?_
    exact v_case_29 w g kc ks Q n b0 L xs i x1 x2 x3 x4 x5 hkc hks hX hb0 hbA hi1 hx1 hi2 hx2 hi3 hx3 hi4 hx4 hi5 hx5 σ
  refine V_ite (c := op = (30 : Int32)) (fun hx => ?_) (fun hx300 => ?_)
  · refine V_tabIn (pc := 40) (x := op) (off := 1777) (tgt := 1817) dL_law__40 (by rw [hx]; decide +kernel) (by rw [hx]; decide +kernel) (by rw [hx]; decide +kernel) (by decide +kernel) ?_
    exact v_case_30 w g kc ks Q n b0 L xs i x1 x2 x3 x4 x5 hkc hks hX hb0 hbA hi1 hx1 hi2 hx2 hi3 hx3 hi4 hx4 hi5 hx5 σ
  refine V_ite (c := op = (31 : Int32)) (fun hx => ?_) (fun hx310 => ?_)
  · refine V_tabIn (pc := 40) (x := op) (off := 1821) (tgt := 1861) dL_law__40 (by rw [hx]; decide +kernel) (by rw [hx]; decide +kernel) (by rw [hx]; decide +kernel) (by decide +kernel) ?_
    exact v_case_31 w g kc ks Q n b0 L xs i x1 x2 x3 x4 x5 hkc hks hX hb0 hbA hi1 hx1 hi2 hx2 hi3 hx3 hi4 hx4 hi5 hx5 σ
  refine V_ite (c := op = (32 : Int32)) (fun hx => ?_) (fun hx320 => ?_)
  · refine V_tabIn (pc := 40) (x := op) (off := 1889) (tgt := 1929) dL_law__40 (by rw [hx]; decide +kernel) (by rw [hx]; decide +kernel) (by rw [hx]; decide +kernel) (by decide +kernel) ?_
    exact v_case_32 w g kc ks Q n b0 L xs i x1 x2 x3 x4 x5 hkc hks hX hb0 hbA hi1 hx1 hi2 hx2 hi3 hx3 hi4 hx4 hi5 hx5 σ
  refine V_ite (c := op = (33 : Int32)) (fun hx => ?_) (fun hx330 => ?_)
  · refine V_tabIn (pc := 40) (x := op) (off := 1957) (tgt := 1997) dL_law__40 (by rw [hx]; decide +kernel) (by rw [hx]; decide +kernel) (by rw [hx]; decide +kernel) (by decide +kernel) ?_
    exact v_case_33 w g kc ks Q n b0 L xs i x1 x2 x3 x4 x5 hkc hks hX hb0 hbA hi1 hx1 hi2 hx2 hi3 hx3 hi4 hx4 hi5 hx5 σ
  refine V_ite (c := op = (34 : Int32)) (fun hx => ?_) (fun hx340 => ?_)
  · refine V_tabIn (pc := 40) (x := op) (off := 2041) (tgt := 2081) dL_law__40 (by rw [hx]; decide +kernel) (by rw [hx]; decide +kernel) (by rw [hx]; decide +kernel) (by decide +kernel) ?_
    exact v_case_34 w g kc ks Q n b0 L xs i x1 x2 x3 x4 x5 hkc hks hX hb0 hbA hi1 hx1 hi2 hx2 hi3 hx3 hi4 hx4 hi5 hx5 σ
  refine V_ite (c := op = (35 : Int32)) (fun hx => ?_) (fun hx350 => ?_)
  · refine V_tabIn (pc := 40) (x := op) (off := 2116) (tgt := 2156) dL_law__40 (by rw [hx]; decide +kernel) (by rw [hx]; decide +kernel) (by rw [hx]; decide +kernel) (by decide +kernel) ?_
    exact v_case_35 w g kc ks Q n b0 L xs i x1 x2 x3 x4 x5 hkc hks hX hb0 hbA hi1 hx1 hi2 hx2 hi3 hx3 hi4 hx4 hi5 hx5 σ
  refine V_ite (c := op = (36 : Int32)) (fun hx => ?_) (fun hx360 => ?_)
  · refine V_tabIn (pc := 40) (x := op) (off := 2172) (tgt := 2212) dL_law__40 (by rw [hx]; decide +kernel) (by rw [hx]; decide +kernel) (by rw [hx]; decide +kernel) (by decide +kernel) ?_
    exact v_case_36 w g kc ks Q n b0 L xs i x1 x2 x3 x4 x5 hkc hks hX hb0 hbA hi1 hx1 hi2 hx2 hi3 hx3 hi4 hx4 hi5 hx5 σ
  refine V_ite (c := op = (37 : Int32)) (fun hx => ?_) (fun hx370 => ?_)
  · refine V_tabIn (pc := 40) (x := op) (off := 2228) (tgt := 2268) dL_law__40 (by rw [hx]; decide +kernel) (by rw [hx]; decide +kernel) (by rw [hx]; decide +kernel) (by decide +kernel) ?_
    exact v_case_37 w g kc ks Q n b0 L xs i x1 x2 x3 x4 x5 hkc hks hX hb0 hbA hi1 hx1 hi2 hx2 hi3 hx3 hi4 hx4 hi5 hx5 σ
  refine V_ite (c := op = (38 : Int32)) (fun hx => ?_) (fun hx380 => ?_)
  · refine V_tabIn (pc := 40) (x := op) (off := 2296) (tgt := 2336) dL_law__40 (by rw [hx]; decide +kernel) (by rw [hx]; decide +kernel) (by rw [hx]; decide +kernel) (by decide +kernel) ?_
    exact v_case_38 w g kc ks Q n b0 L xs i x1 x2 x3 x4 x5 hkc hks hX hb0 hbA hi1 hx1 hi2 hx2 hi3 hx3 hi4 hx4 hi5 hx5 σ
  refine V_ite (c := op = (39 : Int32)) (fun hx => ?_) (fun hx390 => ?_)
  · refine V_tabIn (pc := 40) (x := op) (off := 2392) (tgt := 2432) dL_law__40 (by rw [hx]; decide +kernel) (by rw [hx]; decide +kernel) (by rw [hx]; decide +kernel) (by decide +kernel) ?_
    exact v_case_39 w g kc ks Q n b0 L xs i x1 x2 x3 x4 x5 hkc hks hX hb0 hbA hi1 hx1 hi2 hx2 hi3 hx3 hi4 hx4 hi5 hx5 σ
  refine V_ite (c := op = (40 : Int32)) (fun hx => ?_) (fun hx400 => ?_)
  · refine V_tabIn (pc := 40) (x := op) (off := 2448) (tgt := 2488) dL_law__40 (by rw [hx]; decide +kernel) (by rw [hx]; decide +kernel) (by rw [hx]; decide +kernel) (by decide +kernel) ?_
    exact v_case_40 w g kc ks Q n b0 L xs i x1 x2 x3 x4 x5 hkc hks hX hb0 hbA hi1 hx1 hi2 hx2 hi3 hx3 hi4 hx4 hi5 hx5 σ
  refine V_ite (c := op = (41 : Int32)) (fun hx => ?_) (fun hx410 => ?_)
  · refine V_tabIn (pc := 40) (x := op) (off := 2532) (tgt := 2572) dL_law__40 (by rw [hx]; decide +kernel) (by rw [hx]; decide +kernel) (by rw [hx]; decide +kernel) (by decide +kernel) ?_
    exact v_case_41 w g kc ks Q n b0 L xs i x1 x2 x3 x4 x5 hkc hks hX hb0 hbA hi1 hx1 hi2 hx2 hi3 hx3 hi4 hx4 hi5 hx5 σ
  refine V_ite (c := op = (42 : Int32)) (fun hx => ?_) (fun hx420 => ?_)
  · refine V_tabIn (pc := 40) (x := op) (off := 2616) (tgt := 2656) dL_law__40 (by rw [hx]; decide +kernel) (by rw [hx]; decide +kernel) (by rw [hx]; decide +kernel) (by decide +kernel) ?_
    exact v_case_42 w g kc ks Q n b0 L xs i x1 x2 x3 x4 x5 hkc hks hX hb0 hbA hi1 hx1 hi2 hx2 hi3 hx3 hi4 hx4 hi5 hx5 σ
  refine V_ite (c := op = (43 : Int32)) (fun hx => ?_) (fun hx430 => ?_)
  · refine V_tabIn (pc := 40) (x := op) (off := 2700) (tgt := 2740) dL_law__40 (by rw [hx]; decide +kernel) (by rw [hx]; decide +kernel) (by rw [hx]; decide +kernel) (by decide +kernel) ?_
    exact v_case_43 w g kc ks Q n b0 L xs i x1 x2 x3 x4 x5 hkc hks hX hb0 hbA hi1 hx1 hi2 hx2 hi3 hx3 hi4 hx4 hi5 hx5 σ
  refine V_ite (c := op = (44 : Int32)) (fun hx => ?_) (fun hx440 => ?_)
  · refine V_tabIn (pc := 40) (x := op) (off := 2768) (tgt := 2808) dL_law__40 (by rw [hx]; decide +kernel) (by rw [hx]; decide +kernel) (by rw [hx]; decide +kernel) (by decide +kernel) ?_
    exact v_case_44 w g kc ks Q n b0 L xs i x1 x2 x3 x4 x5 hkc hks hX hb0 hbA hi1 hx1 hi2 hx2 hi3 hx3 hi4 hx4 hi5 hx5 σ
  refine V_ite (c := op = (45 : Int32)) (fun hx => ?_) (fun hx450 => ?_)
  · refine V_tabIn (pc := 40) (x := op) (off := 2793) (tgt := 2833) dL_law__40 (by rw [hx]; decide +kernel) (by rw [hx]; decide +kernel) (by rw [hx]; decide +kernel) (by decide +kernel) ?_
    exact v_case_45 w g kc ks Q n b0 L xs i x1 x2 x3 x4 x5 hkc hks hX hb0 hbA hi1 hx1 hi2 hx2 hi3 hx3 hi4 hx4 hi5 hx5 σ
  refine V_ite (c := op = (46 : Int32)) (fun hx => ?_) (fun hx460 => ?_)
  · refine V_tabIn (pc := 40) (x := op) (off := 2806) (tgt := 2846) dL_law__40 (by rw [hx]; decide +kernel) (by rw [hx]; decide +kernel) (by rw [hx]; decide +kernel) (by decide +kernel) ?_
    exact v_case_46 w g kc ks Q n b0 L xs i x1 x2 x3 x4 x5 hkc hks hX hb0 hbA hi1 hx1 hi2 hx2 hi3 hx3 hi4 hx4 hi5 hx5 σ
  refine V_ite (c := op = (47 : Int32)) (fun hx => ?_) (fun hx470 => ?_)
  · refine V_tabIn (pc := 40) (x := op) (off := 2817) (tgt := 2857) dL_law__40 (by rw [hx]; decide +kernel) (by rw [hx]; decide +kernel) (by rw [hx]; decide +kernel) (by decide +kernel) ?_
    exact v_case_47 w g kc ks Q n b0 L xs i x1 x2 x3 x4 x5 hkc hks hX hb0 hbA hi1 hx1 hi2 hx2 hi3 hx3 hi4 hx4 hi5 hx5 σ
  refine V_ite (c := op = (48 : Int32)) (fun hx => ?_) (fun hx480 => ?_)
  · refine V_tabIn (pc := 40) (x := op) (off := 2830) (tgt := 2870) dL_law__40 (by rw [hx]; decide +kernel) (by rw [hx]; decide +kernel) (by rw [hx]; decide +kernel) (by decide +kernel) ?_
    exact v_case_48 w g kc ks Q n b0 L xs i x1 x2 x3 x4 x5 hkc hks hX hb0 hbA hi1 hx1 hi2 hx2 hi3 hx3 hi4 hx4 hi5 hx5 σ
  refine V_tabOut (pc := 40) (tgt := 2895) dL_law__40 (tabout op 0 48 (by decide) (by decide) (fun k h1 h2 => ?_)) (by decide +kernel) ?_
  · rcases (show k = 0 ∨ k = 1 ∨ k = 2 ∨ k = 3 ∨ k = 4 ∨ k = 5 ∨ k = 6 ∨ k = 7 ∨ k = 8 ∨ k = 9 ∨ k = 10 ∨ k = 11 ∨ k = 12 ∨ k = 13 ∨ k = 14 ∨ k = 15 ∨ k = 16 ∨ k = 17 ∨ k = 18 ∨ k = 19 ∨ k = 20 ∨ k = 21 ∨ k = 22 ∨ k = 23 ∨ k = 24 ∨ k = 25 ∨ k = 26 ∨ k = 27 ∨ k = 28 ∨ k = 29 ∨ k = 30 ∨ k = 31 ∨ k = 32 ∨ k = 33 ∨ k = 34 ∨ k = 35 ∨ k = 36 ∨ k = 37 ∨ k = 38 ∨ k = 39 ∨ k = 40 ∨ k = 41 ∨ k = 42 ∨ k = 43 ∨ k = 44 ∨ k = 45 ∨ k = 46 ∨ k = 47 ∨ k = 48 by omega) with rfl | rfl | rfl | rfl | rfl | rfl | rfl | rfl | rfl | rfl | rfl | rfl | rfl | rfl | rfl | rfl | rfl | rfl | rfl | rfl | rfl | rfl | rfl | rfl | rfl | rfl | rfl | rfl | rfl | rfl | rfl | rfl | rfl | rfl | rfl | rfl | rfl | rfl | rfl | rfl | rfl | rfl | rfl | rfl | rfl | rfl | rfl | rfl | rfl
    · exact hx00
    · exact hx10
    · exact hx20
    · exact hx30
    · exact hx40
    · exact hx50
    · exact hx60
    · exact hx70
    · exact hx80
    · exact hx90
    · exact hx100
    · exact hx110
    · exact hx120
    · exact hx130
    · exact hx140
    · exact hx150
    · exact hx160
    · exact hx170
    · exact hx180
    · exact hx190
    · exact hx200
    · exact hx210
    · exact hx220
    · exact hx230
    · exact hx240
    · exact hx250
    · exact hx260
    · exact hx270
    · exact hx280
    · exact hx290
    · exact hx300
    · exact hx310
    · exact hx320
    · exact hx330
    · exact hx340
    · exact hx350
    · exact hx360
    · exact hx370
    · exact hx380
    · exact hx390
    · exact hx400
    · exact hx410
    · exact hx420
    · exact hx430
    · exact hx440
    · exact hx450
    · exact hx460
    · exact hx470
    · exact hx480
  · refine V_widen (kc' := kc + 20) (ks' := ks + 120) (by omega) (by omega) ?_
    exact V_back (fun h => h)
