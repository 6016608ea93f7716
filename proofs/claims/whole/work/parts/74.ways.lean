/-! layer 2: ways to put people into pairs -/
abbrev Row : Type := Nat → Nat
def ud (r : Row) (p v : Nat) : Row := fun i => if i = p then v else r i
def gpJ (f : Nat → List Row) : Nat → List Row
  | 0 => []
  | i + 1 => gpJ f i ++ f i
/-- the program's ways, in its order: 9 is nobody yet -/
def gpL : Nat → Nat → Bool → Row → List Row
  | 0, _, _, r => [r]
  | k + 1, p, al, r => if r p = 9 then (if al = true then gpL k (p + 1) false (ud r p p) else []) ++ gpJ (fun i => if r (p + 1 + i) = 9 then gpL k (p + 1) al (ud (ud r p (p + 1 + i)) (p + 1 + i) p) else []) k else gpL k (p + 1) al r
def rowL (N : Nat) (r : Row) : List Nat := (List.range N).map r
def LC (N : Nat) : List (List Nat) := (gpL N 0 (decide (N % 2 = 1)) (fun _ => 9)).map (rowL N)
/-- the reference's -/
def fo : Nat → Row → Nat → Nat → Option Nat
  | 0, _, _, _ => none
  | f + 1, r, v, i => if i < 9 then (if r i = 9 then (if v = 0 then some i else fo f r (v - 1) (i + 1)) else fo f r v (i + 1)) else none
def fr1 (N T : Nat) (r : Row) (v : Nat) : Option Nat := if T ≤ N then fo 12 r v 0 else if r N = 9 then (if v = 0 then some N else fo 12 r (v - 1) 0) else fo 12 r v 0
def ff : Nat → Row → Nat → Option Nat
  | 0, _, _ => none
  | f + 1, r, i => if i < 9 then (if r i = 9 then some i else ff f r (i + 1)) else none
def wy (m : Nat) : Nat := if m ≤ 1 then 1 else if m = 2 then 3 else if m = 3 then 15 else 105
def lw (N T : Nat) : Nat → Nat → Nat → Row → Option Row
  | 0, _, _, _ => none
  | _ + 1, 0, _, r => some r
  | f + 1, m + 1, v, r => (ff 12 r 0).bind (fun a => (fr1 N T (ud r a a) (v / wy m)).bind (fun b => if b < 9 then lw N T f m (v % wy m) (ud (ud (ud r a a) a b) b a) else none))
def layR (N k : Nat) : Option Row := lw N (N + N % 2) 6 ((N + N % 2) / 2) k (fun _ => 9)
def cvM (N : Nat) (r : Row) : Row := fun p => if r p = N then p else r p
def okM (N : Nat) (r : Row) : Bool := (List.range N).all (fun p => decide (r p ≠ p) && decide (r p ≤ 8))
set_option maxRecDepth 100000 in
theorem ways_ok : ∀ N, N < 9 → (List.range (wy ((N + N % 2) / 2))).map (fun k => (layR N k).map (fun r => (rowL N (cvM N r), okM N r))) = (LC N).map (fun l => some (l, l.all (fun x => decide (x < N)))) := by decide +kernel
set_option maxRecDepth 100000 in
theorem ways_lt : ∀ N, N < 9 → (LC N).all (fun l => l.all (fun x => decide (x < N))) = true := by decide +kernel
