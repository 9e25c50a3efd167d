/-! the fixed cells of a running law: their shapes, and the references that never change -/
def tL : List (Nat × Nat) := [(9, 0), (14, 12), (13, 10), (15, 4), (1, 0), (11, 10), (2, 0), (11, 144), (3, 0), (11, 16), (12, 64), (3, 0), (11, 16), (4, 0), (11, 10), (11, 1024), (12, 1024), (12, 1024), (5, 0), (11, 10), (11, 4), (0, 0), (12, 2001), (8, 0), (11, 64), (8, 0), (11, 64), (8, 0), (11, 64), (8, 0), (11, 64), (10, 0), (11, 96), (11, 12), (11, 12), (11, 8), (11, 8), (11, 3), (11, 4), (11, 4), (11, 256), (12, 24), (12, 24), (12, 24), (11, 10), (11, 10), (11, 10), (11, 10), (11, 10), (11, 10), (11, 10), (11, 1024), (11, 10), (11, 10), (11, 10), (11, 10), (11, 4), (11, 10), (11, 2001), (11, 2001)]
def tX : hTF := fun k => tL[k]?
def q31 : List Nat := [0, 0, 0, 32, 33, 34, 35, 36, 37, 38, 39, 40, 41, 42, 43, 0, 0, 0, 0, 0, 44, 45, 46, 47, 48, 0, 49, 50, 51, 52, 0, 53, 54, 55, 56, 57, 58, 59]
def qL (l : List Nat) (j : Nat) : Option Nat := match l[j]? with
  | some 0 => none
  | some x => some x
  | none => none
def qX : hQF := fun k => match k with
  | 0 => qL [1, 2, 3, 4, 6, 11, 13, 18, 21]
  | 3 => qL [23, 25, 27, 29]
  | 4 => qL [5]
  | 6 => qL [7, 8, 10]
  | 8 => qL [9]
  | 11 => qL [12]
  | 13 => qL [0, 0, 14, 15]
  | 18 => qL [19, 20]
  | 21 => qL [22]
  | 23 => qL [24]
  | 25 => qL [26]
  | 27 => qL [28]
  | 29 => qL [30]
  | 31 => qL q31
  | _ => fun _ => none
theorem tX_big {k : Nat} (h : 60 ≤ k) : tX k = none := List.getElem?_eq_none (by show 60 ≤ k; exact h)
theorem qX_big {k : Nat} (h : 60 ≤ k) (j : Nat) : qX k j = none := by
  unfold qX
  split <;> first | omega | rfl
/-- k is an object of class ci -/
def isOb (a : hA) (k ci : Nat) : Prop := cin 60 a k = true ∧ (tE tX a.2.2.2 k).1 = ci
theorem isOb_ck {a : hA} {k ci : Nat} (h : isOb a k ci) : (cin 60 a k && Nat.beq (tE tX a.2.2.2 k).1 ci) = true := by rw [h.1, h.2, Nat.beq_refl]; rfl
abbrev CX (l : Launch) (dd : cdT) (e : ev) : Prop := CM l tX qX 60 dd e
