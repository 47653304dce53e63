/-- an int as a place -/
abbrev nx (i : Int32) : Nat := i.toNatClampNeg
