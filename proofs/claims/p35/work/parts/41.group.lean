/-! ===== the class: groups ===== -/
def leadAns (o : Option Nat) : Int32 := match o with
  | none => -1
  | some a => nI a
