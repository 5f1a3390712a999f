/-! THE ABSTRACT HEAP: a number of cells, at relative addresses; each has a kind (the class's number, or 11 int[], 12 Entry[], 13 int[][]) and a length; ints, references and longs by address and place -/
abbrev Hp : Type := Nat × (Nat → Nat × Nat) × (Nat → Nat → Int32) × (Nat → Nat → Option Nat) × (Nat → Nat → Int64)
def hN (h : Hp) : Nat := h.1
def hK (h : Hp) : Nat → Nat × Nat := h.2.1
def hI (h : Hp) : Nat → Nat → Int32 := h.2.2.1
def hR (h : Hp) : Nat → Nat → Option Nat := h.2.2.2.1
def hJ (h : Hp) : Nat → Nat → Int64 := h.2.2.2.2
def u2 {α : Type} (f : Nat → Nat → α) (a k : Nat) (v : α) : Nat → Nat → α := fun b j => if b = a ∧ j = k then v else f b j
def nr {α : Type} (f : Nat → Nat → α) (a : Nat) (v : Nat → α) : Nat → Nat → α := fun b j => if b = a then v j else f b j
def setI (h : Hp) (a k : Nat) (v : Int32) : Hp := (h.1, h.2.1, u2 h.2.2.1 a k v, h.2.2.2.1, h.2.2.2.2)
def setR (h : Hp) (a k : Nat) (v : Option Nat) : Hp := (h.1, h.2.1, h.2.2.1, u2 h.2.2.2.1 a k v, h.2.2.2.2)
def setJ (h : Hp) (a k : Nat) (v : Int64) : Hp := (h.1, h.2.1, h.2.2.1, h.2.2.2.1, u2 h.2.2.2.2 a k v)
/-- an int array's contents are written anew, as a whole -/
def setA (h : Hp) (a : Nat) (f : Nat → Int32) : Hp := (h.1, h.2.1, nr h.2.2.1 a f, h.2.2.2.1, h.2.2.2.2)
/-- a new cell of a kind and a length, with these ints and no references -/
def newC (h : Hp) (c len : Nat) (f : Nat → Int32) : Hp := (h.1 + 1, va_up h.2.1 h.1 (c, len), nr h.2.2.1 h.1 f, nr h.2.2.2.1 h.1 (fun _ => none), nr h.2.2.2.2 h.1 (fun _ => 0))
/-- new int[n][k]: the outer one first, the inner ones behind it -/
def newM (h : Hp) (n k : Nat) : Hp := (h.1 + 1 + n, (fun b => if b = h.1 then (13, n) else if h.1 < b ∧ b < h.1 + 1 + n then (11, k) else h.2.1 b), (fun b j => if h.1 ≤ b ∧ b < h.1 + 1 + n then 0 else h.2.2.1 b j),
  (fun b j => if b = h.1 then (if j < n then some (h.1 + 1 + j) else none) else if h.1 < b ∧ b < h.1 + 1 + n then none else h.2.2.2.1 b j), (fun b j => if h.1 ≤ b ∧ b < h.1 + 1 + n then 0 else h.2.2.2.2 b j))
abbrev isO (h : Hp) (c a : Nat) : Prop := a < hN h ∧ (hK h a).1 = c
abbrev inA (i : Int32) (n : Nat) : Prop := 0 ≤ i.toInt ∧ i.toInt < (n : Int)
/-- the cell at a is of class c, or the road has no end -/
def gd {α : Type} (h : Hp) (c a : Nat) (o : Option α) : Option α := if a < hN h ∧ (hK h a).1 = c then o else none
def getI (h : Hp) (c a k : Nat) : Option Int32 := if a < hN h ∧ (hK h a).1 = c then some (hI h a k) else none
def getJ (h : Hp) (c a k : Nat) : Option Int64 := if a < hN h ∧ (hK h a).1 = c then some (hJ h a k) else none
def getR (h : Hp) (c a k : Nat) : Option Nat := if a < hN h ∧ (hK h a).1 = c then hR h a k else none
def putI (h : Hp) (c a k : Nat) (v : Int32) : Option Hp := if a < hN h ∧ (hK h a).1 = c then some (setI h a k v) else none
def putJ (h : Hp) (c a k : Nat) (v : Int64) : Option Hp := if a < hN h ∧ (hK h a).1 = c then some (setJ h a k v) else none
def putR (h : Hp) (c a k v : Nat) : Option Hp := if a < hN h ∧ (hK h a).1 = c then some (setR h a k (some v)) else none
def ald (h : Hp) (a : Nat) (i : Int32) : Option Int32 := if (a < hN h ∧ (hK h a).1 = 11) ∧ inA i (hK h a).2 then some (hI h a i.toInt.toNat) else none
def ast (h : Hp) (a : Nat) (i v : Int32) : Option Hp := if (a < hN h ∧ (hK h a).1 = 11) ∧ inA i (hK h a).2 then some (setI h a i.toInt.toNat v) else none
/-- Entry[]: a reference or null -/
def aldN (h : Hp) (a : Nat) (i : Int32) : Option (Option Nat) := if (a < hN h ∧ (hK h a).1 = 12) ∧ inA i (hK h a).2 then some (hR h a i.toInt.toNat) else none
/-- int[][]: a row that is there -/
def aldA (h : Hp) (a : Nat) (i : Int32) : Option Nat := if (a < hN h ∧ (hK h a).1 = 13) ∧ inA i (hK h a).2 then hR h a i.toInt.toNat else none
def astN (h : Hp) (a : Nat) (i : Int32) (v : Option Nat) : Option Hp := if ((a < hN h ∧ (hK h a).1 = 12) ∧ inA i (hK h a).2) ∧ (∀ x ∈ v, x < hN h ∧ (hK h x).1 = 1) then some (setR h a i.toInt.toNat v) else none
def aln (h : Hp) (c a : Nat) : Option Int32 := if a < hN h ∧ (hK h a).1 = c then some (Int32.ofNat (hK h a).2) else none
/-- new int[i], of at most B places -/
def newA (h : Hp) (B : Nat) (i : Int32) : Option Hp := if 0 ≤ i.toInt ∧ i.toInt ≤ (B : Int) then some (newC h 11 i.toInt.toNat (fun _ => 0)) else none
def newE (h : Hp) (B : Nat) (i : Int32) : Option Hp := if 0 ≤ i.toInt ∧ i.toInt ≤ (B : Int) then some (newC h 12 i.toInt.toNat (fun _ => 0)) else none
/-- System.arraycopy between int arrays -/
def acpy (h : Hp) (a : Nat) (sp : Int32) (b : Nat) (dp n : Int32) : Option Hp := if (a < hN h ∧ (hK h a).1 = 11) ∧ (b < hN h ∧ (hK h b).1 = 11) ∧ 0 ≤ sp.toInt ∧ 0 ≤ dp.toInt ∧ 0 ≤ n.toInt ∧ sp.toInt + n.toInt ≤ ((hK h a).2 : Int) ∧ dp.toInt + n.toInt ≤ ((hK h b).2 : Int)
  then some (setA h b (va_cpy (hI h a) (hI h b) sp.toInt.toNat dp.toInt.toNat n.toInt.toNat)) else none
/-- an answer that must be 0 or 1 -/
def rz (v : Int32) : Option Int32 := if v = 0 ∨ v = 1 then some v else none
def imx (x y : Int32) : Int32 := if x < y then y else x
def imn (x y : Int32) : Int32 := if y < x then y else x
