/-! layer 2: a day -/
def rD (c : Int32) : Int32 := remI (ushI c 16 &&& 32767) 10
theorem shr16 (v : Int32) : shrI v 16 &&& 32767 = ushI v 16 &&& 32767 := by
  apply Int32.toBitVec.inj
  rw [Int32.toBitVec_and, Int32.toBitVec_and]
  apply BitVec.eq_of_getLsbD_eq
  intro i hi
  rw [BitVec.getLsbD_and, BitVec.getLsbD_and]
  by_cases h8 : i < 15
  · have e1 : (shrI v 16).toBitVec.getLsbD i = v.toBitVec.getLsbD (16 + i) := by
      have hs : (shrI v 16).toBitVec = v.toBitVec.sshiftRight 16 := rfl
      rw [hs, BitVec.getLsbD_sshiftRight]
      have : 16 + i < 32 := by omega
      simp [this, hi]
    have e2 : (ushI v 16).toBitVec.getLsbD i = v.toBitVec.getLsbD (16 + i) := by
      have hs : (ushI v 16).toBitVec = v.toBitVec >>> 16 := rfl
      rw [hs, BitVec.getLsbD_ushiftRight]
    rw [e1, e2]
  · have h255 : (32767 : Int32).toBitVec.getLsbD i = false := by
      have H : ∀ i, i < 32 → 15 ≤ i → (32767 : Int32).toBitVec.getLsbD i = false := by decide +kernel
      exact H i hi (by omega)
    rw [h255, Bool.and_false, Bool.and_false]
def nxt (c : Int32) : Int32 := 1103515245 * c + 12345
def zMove (N : Nat) (dr : Bool) (p : Nat) (V : HV) : HV :=
  if (mostV V N p).2 = -1 then V else if dr = true then (if heldV V p (ix (mostV V N p).2) ≤ rD (nxt (V 0 6)) then vset V 0 6 (nxt (V 0 6)) else vset (vset V 0 6 (nxt (V 0 6))) 1 p (V 1 (ix (mostV V N p).2))) else vset V 1 p (V 1 (ix (mostV V N p).2))
theorem vs_ne {V : HV} {k i k' i' : Nat} {v : Int32} (h : ¬ (k' = k ∧ i' = i)) : vset V k i v k' i' = V k' i' := if_neg h
theorem vs_eq {V : HV} {k i : Nat} {v : Int32} : vset V k i v k i = v := if_pos ⟨rfl, rfl⟩
theorem GV_ch6 {V : HV} {N : Nat} (g : GV V N) (c : Int32) : GV (vset V 0 6 c) N := by
  have g' := g
  obtain ⟨-, b1, b2, b3, b4, b5, -⟩ := g
  exact GV_0 g' (fun k i hk => vs_ne (by omega)) (vs_ne (by omega)) (by rw [vs_ne (by omega)]; exact b1) (by rw [vs_ne (by omega)]; exact b2) (by rw [vs_ne (by omega)]; exact b3) (by rw [vs_ne (by omega)]; exact b4) (by rw [vs_ne (by omega)]; exact b5)
theorem GV_room {V : HV} {N p m : Nat} (g : GV V N) (hm : m < 8) : GV (vset V 1 p (V 1 m)) N := by
  refine GV_1 g (fun k i hk => vs_ne (by omega)) (fun x hx => ?_)
  by_cases c : x = p
  · rw [c, vs_eq]
    exact room_of g hm
  · rw [vs_ne (by omega)]
    exact room_of g hx
theorem held_ch6 {V : HV} {p q : Nat} {c : Int32} : heldV (vset V 0 6 c) p q = heldV V p q := by
  unfold heldV holdsV onV
  rw [vs_ne (by omega), vs_ne (by omega), vs_ne (by omega)]
theorem GV_move {V : HV} {N p : Nat} (dr : Bool) (g : GV V N) : GV (zMove N dr p V) N := by
  have h8 := g.le8
  unfold zMove
  rcases most_is V N p with ⟨-, h2⟩ | ⟨q, hq, -, h2, -, -⟩
  · rw [h2, if_pos rfl]
    exact g
  · rw [h2, it_m1 (by omega), ix_nN (by omega)]
    split
    · split
      · exact GV_ch6 g _
      · have e : V 1 q = vset V 0 6 (nxt (V 0 6)) 1 q := (vs_ne (by omega)).symm
        rw [e]
        exact GV_room (GV_ch6 g _) (by omega)
    · exact GV_room g (by omega)
theorem move_07 {V : HV} {N p : Nat} {dr : Bool} : zMove N dr p V 0 7 = V 0 7 ∧ zMove N dr p V 0 5 = V 0 5 := by
  unfold zMove
  split
  · exact ⟨rfl, rfl⟩
  · split
    · split
      · exact ⟨vs_ne (by omega), vs_ne (by omega)⟩
      · exact ⟨by rw [vs_ne (by omega), vs_ne (by omega)], by rw [vs_ne (by omega), vs_ne (by omega)]⟩
    · exact ⟨vs_ne (by omega), vs_ne (by omega)⟩
/-- footprints so far, the house, and the log behind it -/
abbrev EvF : Type := Nat → Nat × Nat × Nat × Nat
abbrev ZS : Type := Nat × HV × EvF
def evS (x : Nat × Nat × Nat × Nat) (E : EvF) : EvF := fun k => match k with
  | 0 => x
  | k + 1 => E k
def metV (V : HV) (p q : Nat) : HV := vset (vset V 4 p (V 4 p ||| nN (2 ^ q))) 4 q (V 4 q ||| nN (2 ^ p))
def fpV (V : HV) (p q : Nat) (su : Int32) : HV := vset (vset (vset V 3 p (mnI 99 (V 3 p + su))) 3 q (mnI 99 (V 3 q + su))) 0 7 (V 0 7 + 1)
def zMeet (su : HV → Nat → Nat → Int32) (p q : Nat) (Z : ZS) : ZS :=
  if Z.2.1 1 p = Z.2.1 1 q then (if ((flN Z.2.1).testBit (roN Z.2.1 p) && secV (metV Z.2.1 p q) p q) = true then (Z.1 + 1, fpV (metV Z.2.1 p q) p q (su (metV Z.2.1 p q) p q), evS (ix (Z.2.1 0 5), p, q, roN Z.2.1 p) Z.2.2) else (Z.1, metV Z.2.1 p q, Z.2.2)) else Z
theorem GV_met {V : HV} {N p q : Nat} (g : GV V N) (hp : p < N) (hq : q < N) : GV (metV V p q) N := by
  have h8 := g.le8
  have g' := g
  obtain ⟨-, -, -, -, -, -, -, -, -, ⟨m1, m2⟩, -⟩ := g
  have p2 : ∀ r, r < 8 → 2 ^ r < 256 := by decide +kernel
  refine GV_4 g' (fun k i hk => by unfold metV; rw [vs_ne (by omega), vs_ne (by omega)]) ⟨fun x hx => ?_, fun x hx hN => ?_⟩
  · unfold metV
    by_cases c : x = q
    · rw [c, vs_eq]
      obtain ⟨t, ht, ht2⟩ := m1 q (by omega)
      rw [ht, nN_or]
      exact ⟨_, rfl, or_256 ht2 (p2 p (by omega))⟩
    · rw [vs_ne (by omega)]
      by_cases d : x = p
      · rw [d, vs_eq]
        obtain ⟨t, ht, ht2⟩ := m1 p (by omega)
        rw [ht, nN_or]
        exact ⟨_, rfl, or_256 ht2 (p2 q (by omega))⟩
      · rw [vs_ne (by omega)]
        exact m1 x hx
  · unfold metV
    rw [vs_ne (by omega), vs_ne (by omega)]
    exact m2 x hx hN
theorem GV_fp {V : HV} {N p q t : Nat} {su : Int32} (g : GV V N) (hp : p < N) (hq : q < N) (hs : su = nN t) (ht : t ≤ 1188) : GV (fpV V p q su) N := by
  have h8 := g.le8
  have g' := g
  obtain ⟨-, b1, b2, b3, b4, b5, -, -, ⟨s1, s2⟩, -⟩ := g
  have g3 : GV (vset (vset V 3 p (mnI 99 (V 3 p + su))) 3 q (mnI 99 (V 3 q + su))) N := by
    refine GV_3 g' (fun k i hk => by rw [vs_ne (by omega), vs_ne (by omega)]) ⟨fun x hx => ?_, fun x hx hN => ?_⟩
    · by_cases c : x = q
      · rw [c, vs_eq]
        obtain ⟨u, hu, hu2⟩ := s1 q (by omega)
        rw [hu, hs, nN_add, l99, mnI_nN (by omega) (by omega)]
        exact ⟨_, rfl, by omega⟩
      · rw [vs_ne (by omega)]
        by_cases d : x = p
        · rw [d, vs_eq]
          obtain ⟨u, hu, hu2⟩ := s1 p (by omega)
          rw [hu, hs, nN_add, l99, mnI_nN (by omega) (by omega)]
          exact ⟨_, rfl, by omega⟩
        · rw [vs_ne (by omega)]
          exact s1 x hx
    · rw [vs_ne (by omega), vs_ne (by omega)]
      exact s2 x hx hN
  unfold fpV
  refine GV_0 g3 (fun k i hk => vs_ne (by omega)) (vs_ne (by omega)) ?_ ?_ ?_ ?_ ?_
  all_goals rw [vs_ne (by omega), vs_ne (by omega), vs_ne (by omega)]
  · exact b1
  · exact b2
  · exact b3
  · exact b4
  · exact b5
/-- the log's numbers are in bounds -/
def EB (E : EvF) (f : Nat) : Prop := ∀ ago, ago < f → ago < 60 → (E ago).1 ≤ 9999 ∧ (E ago).2.1 < 8 ∧ (E ago).2.2.1 < 8 ∧ (E ago).2.2.2 < 6
def SuB (su : HV → Nat → Nat → Int32) : Prop := ∀ V p q, ∃ t, su V p q = nN t ∧ t ≤ 1188
/-- a state that may be -/
def ZG (N : Nat) (Z : ZS) : Prop := GV Z.2.1 N ∧ Z.2.1 0 7 = nN Z.1 ∧ EB Z.2.2 Z.1
theorem ZG_meet {su : HV → Nat → Nat → Int32} {N p q : Nat} {Z : ZS} (hsu : SuB su) (g : ZG N Z) (hp : p < N) (hq : q < N) : ZG N (zMeet su p q Z) ∧ (zMeet su p q Z).1 ≤ Z.1 + 1 := by
  obtain ⟨g1, g2, g3⟩ := g
  have h8 := g1.le8
  unfold zMeet
  split
  · split
    · obtain ⟨t, ht, ht2⟩ := hsu (metV Z.2.1 p q) p q
      refine ⟨⟨GV_fp (GV_met g1 hp hq) hp hq ht ht2, ?_, ?_⟩, Nat.le_refl _⟩
      · show fpV (metV Z.2.1 p q) p q (su (metV Z.2.1 p q) p q) 0 7 = nN (Z.1 + 1)
        unfold fpV
        rw [vs_eq]
        unfold metV
        rw [vs_ne (by omega), vs_ne (by omega), g2, nN_s]
      · intro ago h1 h2
        cases ago with
        | zero =>
          obtain ⟨r1, r2⟩ := roN_is g1 (show p < 8 by omega)
          obtain ⟨-, -, -, -, -, ⟨d, hd, hd2⟩, -⟩ := g1
          show ix (Z.2.1 0 5) ≤ 9999 ∧ p < 8 ∧ q < 8 ∧ roN Z.2.1 p < 6
          rw [hd, ix_nN (by omega)]
          exact ⟨hd2, by omega, by omega, r2⟩
        | succ k => exact g3 k (by have : k + 1 < Z.1 + 1 := h1; omega) (by omega)
    · refine ⟨⟨GV_met g1 hp hq, ?_, g3⟩, by show Z.1 ≤ Z.1 + 1; omega⟩
      show metV Z.2.1 p q 0 7 = nN Z.1
      unfold metV
      rw [vs_ne (by omega), vs_ne (by omega)]
      exact g2
  · exact ⟨⟨g1, g2, g3⟩, by omega⟩
def zMoves (N : Nat) (dr : Bool) (V : HV) : HV := fR N (zMove N dr) V
def zRow (su : HV → Nat → Nat → Int32) (N p : Nat) (Z : ZS) : ZS := fR (N - (p + 1)) (fun i Z => zMeet su p (p + 1 + i) Z) Z
def zMeets (su : HV → Nat → Nat → Int32) (N : Nat) (Z : ZS) : ZS := fR N (zRow su N) Z
def zTick (Z : ZS) : ZS := (Z.1, vset Z.2.1 0 5 (mnI 9999 (Z.2.1 0 5 + 1)), Z.2.2)
def zDay (su : HV → Nat → Nat → Int32) (N : Nat) (dr : Bool) (Z : ZS) : ZS := zTick (zMeets su N (Z.1, zMoves N dr Z.2.1, Z.2.2))
theorem ZG_moves {N : Nat} {Z : ZS} (dr : Bool) (g : ZG N Z) : ∀ i, ZG N (Z.1, fR i (zMove N dr) Z.2.1, Z.2.2) := by
  intro i
  induction i with
  | zero => exact g
  | succ i ih =>
    obtain ⟨i1, i2, i3⟩ := ih
    exact ⟨GV_move dr i1, move_07.1.trans i2, i3⟩
theorem ZG_row {su : HV → Nat → Nat → Int32} {N p : Nat} {Z : ZS} (hsu : SuB su) (g : ZG N Z) (hp : p < N) : ∀ i, i ≤ N - (p + 1) → ZG N (fR i (fun i Z => zMeet su p (p + 1 + i) Z) Z) ∧ (fR i (fun i Z => zMeet su p (p + 1 + i) Z) Z).1 ≤ Z.1 + i := by
  intro i
  induction i with
  | zero => intro _; exact ⟨g, Nat.le_refl _⟩
  | succ i ih =>
    intro hi
    obtain ⟨i1, i2⟩ := ih (by omega)
    rw [fR_s]
    obtain ⟨j1, j2⟩ := ZG_meet (p := p) (q := p + 1 + i) hsu i1 hp (by omega)
    exact ⟨j1, by omega⟩
theorem ZG_meets {su : HV → Nat → Nat → Int32} {N : Nat} {Z : ZS} (hsu : SuB su) (g : ZG N Z) : ∀ i, i ≤ N → ZG N (fR i (zRow su N) Z) ∧ (fR i (zRow su N) Z).1 ≤ Z.1 + 8 * i := by
  have h8 := g.1.le8
  intro i
  induction i with
  | zero => intro _; exact ⟨g, show Z.1 ≤ Z.1 + 8 * 0 by omega⟩
  | succ i ih =>
    intro hi
    obtain ⟨i1, i2⟩ := ih (by omega)
    rw [fR_s]
    obtain ⟨j1, j2⟩ := ZG_row (p := i) hsu i1 (by omega) (N - (i + 1)) (Nat.le_refl _)
    have j3 : (zRow su N i (fR i (zRow su N) Z)).1 ≤ (fR i (zRow su N) Z).1 + (N - (i + 1)) := j2
    exact ⟨j1, by omega⟩
theorem ZG_tick {N : Nat} {Z : ZS} (g : ZG N Z) : ZG N (zTick Z) := by
  obtain ⟨g1, g2, g3⟩ := g
  have g' := g1
  obtain ⟨-, b1, b2, b3, b4, ⟨d, hd, hd2⟩, -⟩ := g1
  refine ⟨?_, ?_, g3⟩
  · show GV (vset Z.2.1 0 5 (mnI 9999 (Z.2.1 0 5 + 1))) N
    refine GV_0 g' (fun k i hk => vs_ne (by omega)) (vs_ne (by omega)) (by rw [vs_ne (by omega)]; exact b1) (by rw [vs_ne (by omega)]; exact b2) (by rw [vs_ne (by omega)]; exact b3) (by rw [vs_ne (by omega)]; exact b4) ?_
    rw [vs_eq, hd, nN_s, l9999, mnI_nN (by omega) (by omega)]
    exact ⟨_, rfl, by omega⟩
  · show vset Z.2.1 0 5 (mnI 9999 (Z.2.1 0 5 + 1)) 0 7 = nN Z.1
    rw [vs_ne (by omega)]
    exact g2
theorem ZG_day {su : HV → Nat → Nat → Int32} {N : Nat} {Z : ZS} (dr : Bool) (hsu : SuB su) (g : ZG N Z) : ZG N (zDay su N dr Z) ∧ (zDay su N dr Z).1 ≤ Z.1 + 64 := by
  have h8 := g.1.le8
  obtain ⟨h1, h2⟩ := ZG_meets hsu (ZG_moves dr g N) N (Nat.le_refl _)
  refine ⟨ZG_tick h1, ?_⟩
  show (zMeets su N (Z.1, zMoves N dr Z.2.1, Z.2.2)).1 ≤ Z.1 + 64
  have : (zMeets su N (Z.1, zMoves N dr Z.2.1, Z.2.2)).1 ≤ Z.1 + 8 * N := h2
  omega
