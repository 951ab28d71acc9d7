theorem ob {α β : Type} (a : α) (f : α → Option β) : (some a).bind f = f a := by
  rw [show (some a).bind f = f a from rfl]
/-! GEOMETRY, as numbers -/
def gC (w h : Nat) : Nat := w * h
def gK (w h : Nat) : Nat := (w + 1) * (h + 1)
def gV (w h : Nat) : Nat := (h + 1) * w
def gE (w h : Nat) : Nat := (h + 1) * w + h * (w + 1)
def gAr (w h c i : Nat) : Nat := if i < 2 then (c / w + i) * w + c % w else (h + 1) * w + c / w * (w + 1) + c % w + (i - 2)
def gTo (w h k way : Nat) : Nat := if way = 0 then (if k % (w + 1) = 0 then 99 else k / (w + 1) * w + k % (w + 1) - 1) else if way = 1 then (if w ≤ k % (w + 1) then 99 else k / (w + 1) * w + k % (w + 1)) else if way = 2 then (if k / (w + 1) = 0 then 99 else (h + 1) * w + (k / (w + 1) - 1) * (w + 1) + k % (w + 1)) else (if h ≤ k / (w + 1) then 99 else (h + 1) * w + k / (w + 1) * (w + 1) + k % (w + 1))
def gEn (w h e s : Nat) : Nat := if e < (h + 1) * w then e / w * (w + 1) + e % w + s else e - (h + 1) * w + s * (w + 1)
def gArL (w h c : Nat) : List Nat := [gAr w h c 0, gAr w h c 1, gAr w h c 2, gAr w h c 3]
def gToL (w h k : Nat) : List Nat := ([gTo w h k 0, gTo w h k 1, gTo w h k 2, gTo w h k 3]).filter (fun e => decide (e < 99))
def tI (n : Nat) : Int32 := if n = 99 then -1 else nI n
def dim (w h : Nat) : Prop := 1 ≤ w ∧ w < 5 ∧ 1 ≤ h ∧ h < 5
def dimAll (P : Nat → Nat → Bool) : Bool := [1, 2, 3, 4].all fun w => [1, 2, 3, 4].all fun h => P w h
def allLt (n : Nat) (P : Nat → Bool) : Bool := (List.range n).all P
theorem dimAll_of {P : Nat → Nat → Bool} (hP : dimAll P = true) {w h : Nat} (hd : dim w h) : P w h = true := by
  have h1 := List.all_eq_true.mp hP w (by obtain ⟨a, b, -⟩ := hd; simp; omega)
  exact List.all_eq_true.mp h1 h (by obtain ⟨-, -, a, b⟩ := hd; simp; omega)
theorem allLt_of {n : Nat} {P : Nat → Bool} (hP : allLt n P = true) {k : Nat} (hk : k < n) : P k = true := List.all_eq_true.mp hP k (List.mem_range.mpr hk)
theorem and_l {a b : Bool} (h : (a && b) = true) : a = true := (Bool.and_eq_true_iff.mp h).1
theorem and_r {a b : Bool} (h : (a && b) = true) : b = true := (Bool.and_eq_true_iff.mp h).2
theorem gE_dec : dimAll (fun w h => decide (gE w h ≤ 40) && decide (gK w h ≤ 25) && decide (gC w h ≤ 16)) = true := by decide +kernel
theorem gE_40 {w h : Nat} (hd : dim w h) : gE w h ≤ 40 := of_decide_eq_true (and_l (and_l (dimAll_of gE_dec hd)))
theorem gK_25 {w h : Nat} (hd : dim w h) : gK w h ≤ 25 := of_decide_eq_true (and_r (and_l (dimAll_of gE_dec hd)))
theorem gC_16 {w h : Nat} (hd : dim w h) : gC w h ≤ 16 := of_decide_eq_true (and_r (dimAll_of gE_dec hd))
theorem gAr_dec : dimAll (fun w h => allLt (gC w h) fun c => (allLt 4 fun i => decide (gAr w h c i < gE w h)) && (decide (gAr w h c 0 < gAr w h c 1) && (decide (gAr w h c 1 < gAr w h c 2) && decide (gAr w h c 2 < gAr w h c 3)))) = true := by decide +kernel
theorem gAr_lt {w h c i : Nat} (hd : dim w h) (hc : c < gC w h) (hi : i < 4) : gAr w h c i < gE w h := of_decide_eq_true (allLt_of (and_l (allLt_of (dimAll_of gAr_dec hd) hc)) hi)
theorem gAr_up {w h c : Nat} (hd : dim w h) (hc : c < gC w h) : gAr w h c 0 < gAr w h c 1 ∧ gAr w h c 1 < gAr w h c 2 ∧ gAr w h c 2 < gAr w h c 3 := by
  have h1 := and_r (allLt_of (dimAll_of gAr_dec hd) hc)
  exact ⟨of_decide_eq_true (and_l h1), of_decide_eq_true (and_l (and_r h1)), of_decide_eq_true (and_r (and_r h1))⟩
theorem gEn_dec : dimAll (fun w h => allLt (gE w h) fun e => decide (gEn w h e 0 < gK w h) && (decide (gEn w h e 1 < gK w h) && decide (gEn w h e 0 < gEn w h e 1))) = true := by decide +kernel
theorem gEn_lt {w h e s : Nat} (hd : dim w h) (he : e < gE w h) (hs : s < 2) : gEn w h e s < gK w h := by
  have h1 := allLt_of (dimAll_of gEn_dec hd) he
  match s, hs with
  | 0, _ => exact of_decide_eq_true (and_l h1)
  | 1, _ => exact of_decide_eq_true (and_l (and_r h1))
theorem gEn_ne {w h e : Nat} (hd : dim w h) (he : e < gE w h) : gEn w h e 0 < gEn w h e 1 := of_decide_eq_true (and_r (and_r (allLt_of (dimAll_of gEn_dec hd) he)))
theorem gTo_dec : dimAll (fun w h => allLt (gK w h) fun k => (allLt 4 fun i => decide (gTo w h k i < gE w h) || decide (gTo w h k i = 99)) && (((gToL w h k).all fun e => decide (e < gE w h)) && (allLt (gE w h) fun e => decide (gEn w h e 0 = k ∨ gEn w h e 1 = k) == (gToL w h k).contains e))) = true := by decide +kernel
theorem gTo_or {w h k i : Nat} (hd : dim w h) (hk : k < gK w h) (hi : i < 4) : gTo w h k i < gE w h ∨ gTo w h k i = 99 := by
  have h1 := allLt_of (and_l (allLt_of (dimAll_of gTo_dec hd) hk)) hi
  rcases Bool.or_eq_true_iff.mp h1 with h2 | h2
  · exact Or.inl (of_decide_eq_true h2)
  · exact Or.inr (of_decide_eq_true h2)
theorem gToL_lt {w h k e : Nat} (hd : dim w h) (hk : k < gK w h) (he : e ∈ gToL w h k) : e < gE w h := of_decide_eq_true (List.all_eq_true.mp (and_l (and_r (allLt_of (dimAll_of gTo_dec hd) hk))) e he)
theorem gToL_iff {w h k e : Nat} (hd : dim w h) (hk : k < gK w h) (he : e < gE w h) : e ∈ gToL w h k ↔ (gEn w h e 0 = k ∨ gEn w h e 1 = k) := by
  have h1 := eq_of_beq (allLt_of (and_r (and_r (allLt_of (dimAll_of gTo_dec hd) hk))) he)
  rw [← List.contains_iff_mem, ← h1, decide_eq_true_iff]
def upL : List Nat → Bool
  | a :: b :: t => decide (a < b) && upL (b :: t)
  | _ => true
theorem gUp_dec : dimAll (fun w h => allLt (gK w h) fun k => upL (gToL w h k)) = true := by decide +kernel
/-- a state that holds the width and the height alone -/
def stWH (w h : Nat) : vSt := (fun q j => if q = 1 then (if j = 0 then nI w else if j = 1 then nI h else 0) else 0, fun _ _ => 0)
def MD (τ : vSt) (w h : Nat) : Prop := gI τ 1 0 = nI w ∧ gI τ 1 1 = nI h ∧ dim w h
theorem m_around_dec : dimAll (fun w h => allLt (gC w h) fun c => allLt 4 fun i => decide (f_X7_aroundCell (nI c) (nI i) (stWH w h) = some (nI (gAr w h c i)))) = true := by decide +kernel
theorem m_toward_dec : dimAll (fun w h => allLt (gK w h) fun k => allLt 4 fun i => decide (f_X7_toward (nI k) (nI i) (stWH w h) = some (tI (gTo w h k i)))) = true := by decide +kernel
theorem m_end_dec : dimAll (fun w h => allLt (gE w h) fun e => allLt 2 fun s => decide (f_X7_end (nI e) (nI s) (stWH w h) = some (nI (gEn w h e s)))) = true := by decide +kernel
theorem m_dims_dec : dimAll (fun w h => decide (f_X7_cells (stWH w h) = some (nI (gC w h))) && (decide (f_X7_corners (stWH w h) = some (nI (gK w h))) && (decide (f_X7_vertical (stWH w h) = some (nI (gV w h))) && decide (f_X7_edges (stWH w h) = some (nI (gE w h)))))) = true := by decide +kernel
theorem m_cells {τ : vSt} {w h : Nat} (hd : MD τ w h) : f_X7_cells τ = some (nI (gC w h)) := by
  rw [← of_decide_eq_true (and_l (dimAll_of m_dims_dec hd.2.2))]
  unfold f_X7_cells
  rw [hd.1, hd.2.1]; rfl
theorem m_corners {τ : vSt} {w h : Nat} (hd : MD τ w h) : f_X7_corners τ = some (nI (gK w h)) := by
  rw [← of_decide_eq_true (and_l (and_r (dimAll_of m_dims_dec hd.2.2)))]
  unfold f_X7_corners
  rw [hd.1, hd.2.1]; rfl
theorem m_vertical {τ : vSt} {w h : Nat} (hd : MD τ w h) : f_X7_vertical τ = some (nI (gV w h)) := by
  rw [← of_decide_eq_true (and_l (and_r (and_r (dimAll_of m_dims_dec hd.2.2))))]
  unfold f_X7_vertical
  rw [hd.1, hd.2.1]; rfl
theorem m_edges {τ : vSt} {w h : Nat} (hd : MD τ w h) : f_X7_edges τ = some (nI (gE w h)) := by
  rw [← of_decide_eq_true (and_r (and_r (and_r (dimAll_of m_dims_dec hd.2.2))))]
  unfold f_X7_edges f_X7_vertical
  rw [hd.1, hd.2.1]; rfl
theorem m_around {τ : vSt} {w h : Nat} (hd : MD τ w h) {c i : Nat} (hc : c < gC w h) (hi : i < 4) : f_X7_aroundCell (nI c) (nI i) τ = some (nI (gAr w h c i)) := by
  rw [← of_decide_eq_true (allLt_of (allLt_of (dimAll_of m_around_dec hd.2.2) hc) hi)]
  unfold f_X7_aroundCell f_X7_vertical
  rw [hd.1, hd.2.1]; rfl
theorem m_toward {τ : vSt} {w h : Nat} (hd : MD τ w h) {k i : Nat} (hk : k < gK w h) (hi : i < 4) : f_X7_toward (nI k) (nI i) τ = some (tI (gTo w h k i)) := by
  rw [← of_decide_eq_true (allLt_of (allLt_of (dimAll_of m_toward_dec hd.2.2) hk) hi)]
  unfold f_X7_toward f_X7_vertical
  rw [hd.1, hd.2.1]; rfl
theorem m_end {τ : vSt} {w h : Nat} (hd : MD τ w h) {e s : Nat} (he : e < gE w h) (hs : s < 2) : f_X7_end (nI e) (nI s) τ = some (nI (gEn w h e s)) := by
  rw [← of_decide_eq_true (allLt_of (allLt_of (dimAll_of m_end_dec hd.2.2) he) hs)]
  unfold f_X7_end f_X7_vertical
  rw [hd.1, hd.2.1]; rfl
