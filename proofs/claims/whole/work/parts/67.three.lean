/-! a lord of three sides: his corners are those of his three neighbours, two by two -/
def l2m (m : Nat) : Nat := m &&& (m - 1)
/-- first, second, third bit -/
def bx (m : Nat) : Nat := low8 m
def bY (m : Nat) : Nat := low8 (l2m m)
def bz (m : Nat) : Nat := low8 (l2m (l2m m))
def c3 (m1 m2 m3 q : Nat) : Nat := (if m1.testBit q then 1 else 0) + (if m2.testBit q then 1 else 0) + (if m3.testBit q then 1 else 0)
def van1 (p m1 m2 m3 : Nat) : Bool :=
  !((List.range 8).all fun q => q == p || c3 m1 m2 m3 q == 0 || c3 m1 m2 m3 q == 2) ||
  (let s := clr (m1 ||| m2 ||| m3) (2 ^ p)
   pc8 s == 3 && [m1, m2, m3].contains (tri p (bx s) (bY s)) && [m1, m2, m3].contains (tri p (bx s) (bz s)) && [m1, m2, m3].contains (tri p (bY s) (bz s)))
def Lp (p : Nat) : List Nat := (List.range 256).filter (fun m => pc8 m == 3 && m.testBit p)
theorem vanB : ((List.range 8).all fun p => (Lp p).all fun m1 => (Lp p).all fun m2 => (Lp p).all fun m3 => van1 p m1 m2 m3) = true := by decide +kernel
