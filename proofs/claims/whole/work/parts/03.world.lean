/-! the abstract memory: ints, longs, references by place and slot; the shapes of the cells in the order in which they came -/
abbrev Wd : Type := (Nat → Nat → Int32) × (Nat → Nat → Int64) × (Nat → Nat → Option Nat) × List (Nat × Nat)
abbrev Mo (α : Type) : Type := Wd → Option (α × Wd)
def mp {α : Type} (a : α) : Mo α := fun w => some (a, w)
def mz {α : Type} : Mo α := fun _ => none
def mb {α β : Type} (x : Mo α) (f : α → Mo β) : Mo β := fun w => match x w with
  | none => none
  | some (a, w') => f a w'
def u2 {α : Type} (f : Nat → Nat → α) (p k : Nat) (v : α) : Nat → Nat → α := fun q j => if q = p ∧ j = k then v else f q j
def uA {α : Type} (f : Nat → Nat → α) (p : Nat) (g : Nat → α) : Nat → Nat → α := fun q j => if q = p then g j else f q j
/-- how many fields a class has, by its number -/
def nf (ci : Nat) : Nat := match ci with
  | 0 => 8
  | 1 => 8
  | 2 => 3
  | 3 => 13
  | 4 => 8
  | 5 => 2
  | 6 => 9
  | _ => 31
abbrev wS (w : Wd) : List (Nat × Nat) := w.2.2.2
def cnt (w : Wd) : Nat := (wS w).length
def slt (w : Wd) : Nat := ((wS w).map (fun q => q.2)).sum
def isO (w : Wd) (ci p : Nat) : Prop := (wS w)[p]? = some (ci, nf ci)
/-- an array's length, by its kind: 100 ints, 101 longs, 102 booleans, 103 references -/
def alen (w : Wd) (kd p : Nat) : Nat := match (wS w)[p]? with
  | none => 0
  | some q => if q.1 = kd then q.2 else 0
def inr (i : Int32) (n : Nat) : Prop := ¬ i < 0 ∧ i.toNatClampNeg < n
def gI (ci k p : Nat) : Mo Int32 := fun w => if (wS w)[p]? = some (ci, nf ci) then some (w.1 p k, w) else none
def gR (ci k p : Nat) : Mo Nat := fun w => if (wS w)[p]? = some (ci, nf ci) then (match w.2.2.1 p k with
  | none => none
  | some q => some (q, w)) else none
def gQ (ci k p : Nat) : Mo (Option Nat) := fun w => if (wS w)[p]? = some (ci, nf ci) then some (w.2.2.1 p k, w) else none
def sI (ci k p : Nat) (v : Int32) : Mo Unit := fun w => if (wS w)[p]? = some (ci, nf ci) then some ((), (u2 w.1 p k v, w.2)) else none
def sR (ci k p q : Nat) : Mo Unit := fun w => if (wS w)[p]? = some (ci, nf ci) then some ((), (w.1, w.2.1, u2 w.2.2.1 p k (some q), w.2.2.2)) else none
def aI (p : Nat) (i : Int32) : Mo Int32 := fun w => if ¬ i < 0 ∧ i.toNatClampNeg < alen w 100 p then some (w.1 p i.toNatClampNeg, w) else none
def aZ (p : Nat) (i : Int32) : Mo Int32 := fun w => if ¬ i < 0 ∧ i.toNatClampNeg < alen w 102 p then some (w.1 p i.toNatClampNeg, w) else none
def aJ (p : Nat) (i : Int32) : Mo Int64 := fun w => if ¬ i < 0 ∧ i.toNatClampNeg < alen w 101 p then some (w.2.1 p i.toNatClampNeg, w) else none
def aQ (p : Nat) (i : Int32) : Mo (Option Nat) := fun w => if ¬ i < 0 ∧ i.toNatClampNeg < alen w 103 p then some (w.2.2.1 p i.toNatClampNeg, w) else none
def tI (p : Nat) (i v : Int32) : Mo Unit := fun w => if ¬ i < 0 ∧ i.toNatClampNeg < alen w 100 p then some ((), (u2 w.1 p i.toNatClampNeg v, w.2)) else none
def tZ (p : Nat) (i v : Int32) : Mo Unit := fun w => if (¬ i < 0 ∧ i.toNatClampNeg < alen w 102 p) ∧ (v = 0 ∨ v = 1) then some ((), (u2 w.1 p i.toNatClampNeg v, w.2)) else none
def tJ (p : Nat) (i : Int32) (v : Int64) : Mo Unit := fun w => if ¬ i < 0 ∧ i.toNatClampNeg < alen w 101 p then some ((), (w.1, u2 w.2.1 p i.toNatClampNeg v, w.2.2)) else none
def tQ (p : Nat) (i : Int32) (q : Nat) : Mo Unit := fun w => if (¬ i < 0 ∧ i.toNatClampNeg < alen w 103 p) ∧ (wS w)[q]? = some (1, nf 1) then some ((), (w.1, w.2.1, u2 w.2.2.1 p i.toNatClampNeg (some q), w.2.2.2)) else none
/-- an array's length, of a kind that the caller knows -/
def aL (kd p : Nat) : Mo Int32 := fun w => match (wS w)[p]? with
  | none => none
  | some q => if q.1 = kd then some (Int32.ofNat q.2, w) else none
def wNew (w : Wd) (q : Nat × Nat) : Wd := (uA w.1 (cnt w) (fun _ => 0), uA w.2.1 (cnt w) (fun _ => 0), uA w.2.2.1 (cnt w) (fun _ => none), w.2.2.2 ++ [q])
def nO (ci : Nat) : Mo Nat := fun w => some (cnt w, wNew w (ci, nf ci))
def nA (kd : Nat) (n : Int32) : Mo Nat := fun w => if ¬ n < 0 ∧ n.toNatClampNeg ≤ 60000 then some (cnt w, wNew w (kd, n.toNatClampNeg)) else none
/-- System.arraycopy over ints -/
def cpI (src : Nat) (sp : Int32) (dst : Nat) (dp n : Int32) : Mo Unit := fun w =>
  if (¬ sp < 0 ∧ ¬ dp < 0 ∧ ¬ n < 0) ∧ (0 < alen w 100 src ∧ 0 < alen w 100 dst) ∧ sp.toNatClampNeg + n.toNatClampNeg ≤ alen w 100 src ∧ dp.toNatClampNeg + n.toNatClampNeg ≤ alen w 100 dst then
    some ((), (uA w.1 dst (va_cpy (w.1 src) (w.1 dst) sp.toNatClampNeg dp.toNatClampNeg n.toNatClampNeg), w.2)) else none
/-- a call of an object's method: the object is there -/
def vc {α : Type} (ci p : Nat) (f : Mo α) : Mo α := fun w => if (wS w)[p]? = some (ci, nf ci) then f w else none
/-- an answer true or false -/
def rZ (v : Int32) : Mo Int32 := fun w => if v = 0 ∨ v = 1 then some (v, w) else none
def FU : Nat := 100000
/-- which field is a reference -/
def rk (ci k : Nat) : Bool := match ci, k with
  | 0, 0 => false
  | 0, _ => true
  | 1, 0 => false
  | 1, 1 => false
  | 1, _ => true
  | 2, 0 => true
  | 2, _ => false
  | 3, 0 => true
  | 3, 1 => true
  | 3, 2 => true
  | 3, 3 => true
  | 3, 4 => true
  | 3, 5 => true
  | 3, 6 => true
  | 3, _ => false
  | 4, 0 => true
  | 4, 2 => true
  | 4, 3 => true
  | 4, _ => false
  | 5, 0 => true
  | 5, _ => false
  | 6, 7 => false
  | 6, _ => true
  | 7, 1 => true
  | 7, 8 => true
  | 7, 9 => true
  | 7, 10 => true
  | 7, 12 => true
  | 7, 13 => true
  | 7, 14 => true
  | 7, 16 => true
  | 7, 18 => true
  | 7, 19 => true
  | 7, 20 => true
  | 7, 21 => true
  | 7, 28 => true
  | 7, 29 => true
  | _, _ => false
/-- loops: a body, over its own rest -/
def lp {σ α : Type} (F : (σ → Mo α) → σ → Mo α) : Nat → σ → Mo α
  | 0, _ => mz
  | n + 1, s => F (lp F n) s
