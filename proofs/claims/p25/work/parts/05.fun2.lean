def f_X7_tail_110  : Nat → Int32 → vSt → Option (vSt)
  | 0, _, _ => none
  | n9 + 1, v2, σ3 => (if (nI 16) ≤ v2 then some σ3 else (if 0 ≤ ((nI 2) + v2).toInt ∧ ((nI 2) + v2).toInt < 66 then f_X7_tail_110  n9 (v2 + 1) (sI σ3 1 ((nI 2) + v2).toNatClampNeg (-1 : Int32)) else none))
def f_X7_tail (σ : vSt) : Option vSt := ((some (sI (sI σ 1 0 (nI 3)) 1 1 (nI 3))).bind fun (σ1 : vSt) => ((f_X7_tail_110  600 (nI 0) σ1).bind fun σ4 => some σ4))
