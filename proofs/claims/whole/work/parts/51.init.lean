/-! the first text, read -/
def Z0 : Mm := fun _ _ => 0
def N40 : Mm := fun k j => if k = 6 then ([99, 97, 114, 114, 105, 101, 115, 32, 49, 32, 59, 32, 115, 111, 102, 116, 101, 110, 115, 32, 53, 32, 59, 32, 119, 114, 105, 116, 101, 115, 32, 52, 48, 32, 59, 32, 32, 32, 32, 32] : List Int32).getD j 0 else if k = 5 then (if j = 0 then 40 else 0) else 0
def chkR (e : Option (Int32 × Mm)) : Bool := match e with
  | some (r, M) => decide (r = -1) && (decide (M 1 0 = 1) && (decide (M 3 0 = 0) && (decide (M 3 1 = 1) && (decide (M 3 2 = 2) && (decide (M 3 3 = 3) && (decide (M 2 0 = 1) && (decide (M 2 1 = 5) && (decide (M 2 2 = 40) && decide (M 5 0 = 0)))))))))
  | none => false
theorem n40_ok : chkR (m_X1_read N40) = true := by decide +kernel
