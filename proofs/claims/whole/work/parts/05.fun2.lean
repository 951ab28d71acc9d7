def f_X7_tail_110  : Nat → Int32 → vSt → Option (vSt)
  | 0, _, _ => none
  | n9 + 1, v2, σ3 => (if (16 : Int32) ≤ v2 then some σ3 else (if 0 ≤ ((2 : Int32) + v2).toInt ∧ ((2 : Int32) + v2).toInt < 66 then f_X7_tail_110  n9 (v2 + 1) (sI σ3 1 ((2 : Int32) + v2).toNatClampNeg (-1 : Int32)) else none))
def f_X7_tail (σ : vSt) : Option vSt := ((some (sI (sI σ 1 0 (3 : Int32)) 1 1 (3 : Int32))).bind fun (σ1 : vSt) => ((f_X7_tail_110  600 (0 : Int32) σ1).bind fun φ7 => match φ7 with | σ4 => some σ4))
