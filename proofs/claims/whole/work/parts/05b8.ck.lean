/-! the checks of the law's own table, in pieces -/
def ckL (a n : Nat) : Bool := (List.range n).all (fun i => match tbl 260 (a + i) with
  | none => true
  | some e => okE 260 (a + i) e)
theorem ckl0 : ckL 0 125 = true := by decide +kernel
theorem ckl1 : ckL 125 125 = true := by decide +kernel
theorem ckl2 : ckL 250 125 = true := by decide +kernel
theorem ckl3 : ckL 375 125 = true := by decide +kernel
