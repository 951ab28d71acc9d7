/-! THE REFERENCE'S PLAIN DEDUCTIONS: cells and corners -/
def fo (mk : Nat → Nat) : List Nat → Nat
  | [] => 99
  | a :: t => if mk a = 0 then a else fo mk t
theorem fo_t {mk : Nat → Nat} {a : Nat} {t : List Nat} (h : mk a = 0) : fo mk (a :: t) = a := if_pos h
theorem fo_f {mk : Nat → Nat} {a : Nat} {t : List Nat} (h : ¬ mk a = 0) : fo mk (a :: t) = fo mk t := if_neg h
def bec (r : Nat) : Nat := if r = 1 ∨ r = 4 ∨ r = 7 then 1 else 2
def dedC (w h : Nat) (cnt : Nat → Int32) (mk : Nat → Nat) (r c : Nat) : Prop := cnt c = nI (nAr w h mk c 1 + if r = 1 then nAr w h mk c 0 else 0) ∧ 0 < nAr w h mk c 0
def dedK (w h : Nat) (mk : Nat → Nat) (r k : Nat) : Prop := if r = 2 then nTo w h mk k 1 = 2 ∧ 0 < nTo w h mk k 0 else nTo w h mk k 0 = 1 ∧ nTo w h mk k 1 + 3 = r
def fnd (τ : vSt) (r e p : Nat) : vSt := sI (sI (sI (sI τ 0 13 (nI r)) 0 14 (nI e)) 0 15 (nI (bec r))) 0 16 (tI p)
theorem m_oa_step {τ : vSt} {w h : Nat} {cnt : Nat → Int32} {mk : Nat → Nat} (hg : MG τ w h cnt mk) {c i n : Nat} (hc : c < gC w h) (hi : i < 4) : f_X7_openAround_2 (nI c) τ (n + 1) (nI i) = if mk (gAr w h c i) = 0 then some (nI i) else f_X7_openAround_2 (nI c) τ n (nI (i + 1)) := by
  rw [f_X7_openAround_2.eq_2, m_around hg.1 hc hi]
  simp only [ob]
  have hm := hg.2.2.2 (gAr w h c i)
  rw [m_markOf hg (Nat.lt_of_lt_of_le (gAr_lt hg.1.2.2 hc hi) (gE_40 hg.1.2.2))]
  simp only [ob]
  by_cases e : mk (gAr w h c i) = 0
  · rw [if_pos (by rw [e]), if_pos e]
  · rw [if_neg (by rw [nI_eq (by omega) (by decide)]; exact e), if_neg e, nI_1 i]
theorem m_openAround {τ : vSt} {w h : Nat} {cnt : Nat → Int32} {mk : Nat → Nat} (hg : MG τ w h cnt mk) {c : Nat} (hc : c < gC w h) (ho : 0 < nAr w h mk c 0) : f_X7_openAround (nI c) τ = some (nI (fo mk (gArL w h c))) := by
  unfold f_X7_openAround gArL
  show (f_X7_openAround_2 (nI c) τ (596 + 1 + 1 + 1 + 1) (nI 0)).bind _ = _
  rw [m_oa_step hg hc (i := 0) (by decide)]
  by_cases e0 : mk (gAr w h c 0) = 0
  · rw [if_pos e0, fo_t e0]; simp only [ob]; rw [m_around hg.1 hc (by decide)]; simp only [ob]
  rw [if_neg e0, fo_f e0, m_oa_step hg hc (i := 1) (by decide)]
  by_cases e1 : mk (gAr w h c 1) = 0
  · rw [if_pos e1, fo_t e1]; simp only [ob]; rw [m_around hg.1 hc (by decide)]; simp only [ob]
  rw [if_neg e1, fo_f e1, m_oa_step hg hc (i := 2) (by decide)]
  by_cases e2 : mk (gAr w h c 2) = 0
  · rw [if_pos e2, fo_t e2]; simp only [ob]; rw [m_around hg.1 hc (by decide)]; simp only [ob]
  rw [if_neg e2, fo_f e2, m_oa_step hg hc (i := 3) (by decide)]
  by_cases e3 : mk (gAr w h c 3) = 0
  · rw [if_pos e3, fo_t e3]; simp only [ob]; rw [m_around hg.1 hc (by decide)]; simp only [ob]
  · simp [nAr, gArL, List.countP_cons, e0, e1, e2, e3] at ho
theorem m_ot_step {τ : vSt} {w h : Nat} {cnt : Nat → Int32} {mk : Nat → Nat} (hg : MG τ w h cnt mk) {k i n : Nat} (hk : k < gK w h) (hi : i < 4) : f_X7_openAt_2 (nI k) τ (n + 1) (nI i) = if gTo w h k i < 99 ∧ mk (gTo w h k i) = 0 then some (nI i) else f_X7_openAt_2 (nI k) τ n (nI (i + 1)) := by
  rw [f_X7_openAt_2.eq_2, m_toward hg.1 hk hi]
  simp only [ob]
  have h40 := gE_40 hg.1.2.2
  rcases gTo_or hg.1.2.2 hk hi with h1 | h1
  · have hm := hg.2.2.2 (gTo w h k i)
    rw [tI_n (by omega), if_neg (nI_nem1 (by omega)), m_markOf hg (by omega)]
    simp only [ob]
    by_cases e : mk (gTo w h k i) = 0
    · rw [if_pos (by rw [e]), if_pos ⟨by omega, e⟩]
    · rw [if_neg (by rw [nI_eq (by omega) (by decide)]; exact e), if_neg (fun q => e q.2), nI_1 i]
  · rw [h1, tI_99, if_pos rfl, if_neg (by omega), nI_1 i]
theorem fo_flt {mk : Nat → Nat} {a : Nat} {t : List Nat} (h : a < 99 ∧ mk a = 0) : fo mk ((a :: t).filter (fun e => decide (e < 99))) = a := by
  rw [List.filter_cons_of_pos (by simp [h.1]), fo_t h.2]
theorem fo_flf {mk : Nat → Nat} {a : Nat} {t : List Nat} (h : ¬ (a < 99 ∧ mk a = 0)) : fo mk ((a :: t).filter (fun e => decide (e < 99))) = fo mk (t.filter (fun e => decide (e < 99))) := by
  by_cases h1 : a < 99
  · rw [List.filter_cons_of_pos (by simp [h1]), fo_f (fun q => h ⟨h1, q⟩)]
  · rw [List.filter_cons_of_neg (by simp; omega)]
theorem m_openAt {τ : vSt} {w h : Nat} {cnt : Nat → Int32} {mk : Nat → Nat} (hg : MG τ w h cnt mk) {k : Nat} (hk : k < gK w h) (ho : 0 < nTo w h mk k 0) : f_X7_openAt (nI k) τ = some (nI (fo mk (gToL w h k))) := by
  unfold f_X7_openAt gToL
  show (f_X7_openAt_2 (nI k) τ (596 + 1 + 1 + 1 + 1) (nI 0)).bind _ = _
  rw [m_ot_step hg hk (i := 0) (by decide)]
  by_cases e0 : gTo w h k 0 < 99 ∧ mk (gTo w h k 0) = 0
  · rw [if_pos e0, fo_flt e0]; simp only [ob]; rw [m_toward hg.1 hk (by decide), tI_n (by omega)]; simp only [ob]
  rw [if_neg e0, fo_flf e0, m_ot_step hg hk (i := 1) (by decide)]
  by_cases e1 : gTo w h k 1 < 99 ∧ mk (gTo w h k 1) = 0
  · rw [if_pos e1, fo_flt e1]; simp only [ob]; rw [m_toward hg.1 hk (by decide), tI_n (by omega)]; simp only [ob]
  rw [if_neg e1, fo_flf e1, m_ot_step hg hk (i := 2) (by decide)]
  by_cases e2 : gTo w h k 2 < 99 ∧ mk (gTo w h k 2) = 0
  · rw [if_pos e2, fo_flt e2]; simp only [ob]; rw [m_toward hg.1 hk (by decide), tI_n (by omega)]; simp only [ob]
  rw [if_neg e2, fo_flf e2, m_ot_step hg hk (i := 3) (by decide)]
  by_cases e3 : gTo w h k 3 < 99 ∧ mk (gTo w h k 3) = 0
  · rw [if_pos e3, fo_flt e3]; simp only [ob]; rw [m_toward hg.1 hk (by decide), tI_n (by omega)]; simp only [ob]
  · exfalso
    have hz : nTo w h mk k 0 = 0 := by
      unfold nTo gToL
      rw [List.countP_filter]
      simp only [List.countP_cons, List.countP_nil, Bool.and_eq_true, decide_eq_true_eq]
      rw [if_neg (fun q => e3 ⟨q.2, q.1⟩), if_neg (fun q => e2 ⟨q.2, q.1⟩), if_neg (fun q => e1 ⟨q.2, q.1⟩), if_neg (fun q => e0 ⟨q.2, q.1⟩)]
    omega
theorem m_finds {τ : vSt} {r e p : Nat} : f_X7_finds (nI r) (nI e) (nI (bec r)) (tI p) τ = some (nI 1, fnd τ r e p) := rfl
theorem m_byCells {τ : vSt} {w h : Nat} {cnt : Nat → Int32} {mk : Nat → Nat} (hg : MG τ w h cnt mk) {r : Nat} (hr : r < 2) : f_X7_byCells (nI r) τ = if lst (gC w h) (dedC w h cnt mk r) = 99 then some (nI 0, τ) else some (nI 1, fnd τ r (fo mk (gArL w h (lst (gC w h) (dedC w h cnt mk r)))) (lst (gC w h) (dedC w h cnt mk r))) := by
  have h16 := gC_16 hg.1.2.2
  have key : ∀ (n i : Nat), i ≤ gC w h → gC w h < i + n → f_X7_byCells_2 (nI r) τ n (nI i) = if lsF (dedC w h cnt mk r) i (gC w h - i) = 99 then some (.inr ()) else some (.inl (nI 1, fnd τ r (fo mk (gArL w h (lsF (dedC w h cnt mk r) i (gC w h - i)))) (lsF (dedC w h cnt mk r) i (gC w h - i)))) := by
    intro n
    induction n with
    | zero => intro i h1 h2; omega
    | succ n ih =>
      intro i h1 h2
      rw [f_X7_byCells_2.eq_2, m_cells hg.1]
      simp only [ob]
      by_cases hi : gC w h ≤ i
      · rw [if_pos ((nI_leI (by omega) (by omega)).mpr hi), show gC w h - i = 0 by omega, show lsF (dedC w h cnt mk r) i 0 = 99 from rfl, if_pos rfl]
      · have hc : i < gC w h := by omega
        have l1 := nAr_le w h mk i 1
        have l0 := nAr_le w h mk i 0
        rw [if_neg (by rw [nI_leI (by omega) (by omega)]; exact hi), m_aroundWith hg hc (v := 1) (by decide)]
        simp only [ob]
        have hx : ((if nI r = nI 1 then ((f_X7_aroundWith (nI i) (nI 0) τ).bind fun v14 => some v14) else some (nI 0)) : Option Int32) = some (nI (if r = 1 then nAr w h mk i 0 else 0)) := by
          by_cases e : r = 1
          · rw [if_pos (by rw [e]), if_pos e, m_aroundWith hg hc (v := 0) (by decide)]; simp only [ob]
          · rw [if_neg (by rw [nI_eq (by omega) (by decide)]; exact e), if_neg e]
        rw [hx]
        simp only [ob]
        rw [nI_add, nI_add, if_pos (ig (by omega) (by omega)), nI_clamp (by omega), hg.2.1 i (by omega)]
        by_cases e1 : cnt i = nI (nAr w h mk i 1 + if r = 1 then nAr w h mk i 0 else 0)
        · rw [if_pos e1, m_aroundWith hg hc (v := 0) (by decide)]
          simp only [ob]
          by_cases e2 : nAr w h mk i 0 ≤ 0
          · rw [if_pos ((nI_leI (by omega) (by decide)).mpr e2), nI_1 i, ih (i + 1) (by omega) (by omega), lsF_n hc (fun q => by have := q.2; omega)]
          · rw [if_neg (by rw [nI_leI (by omega) (by decide)]; exact e2), m_openAround hg hc (by omega)]
            simp only [ob]
            have hb : ((if nI r = nI 0 then some (nI 2) else some (nI 1)) : Option Int32) = some (nI (bec r)) := by
              rcases (show r = 0 ∨ r = 1 by omega) with rfl | rfl <;> rfl
            rw [hb]
            simp only [ob]
            rw [lsF_y (P := dedC w h cnt mk r) hc ⟨e1, by omega⟩, if_neg (by omega)]
            have ht : nI i = tI i := (tI_n (by omega)).symm
            conv => lhs; rw [ht]
            rw [m_finds]
            simp only [ob]
        · rw [if_neg e1, nI_1 i, ih (i + 1) (by omega) (by omega), lsF_n hc (fun q => e1 q.1)]
  unfold f_X7_byCells
  rw [key 600 0 (Nat.zero_le _) (by omega)]
  show (if lst (gC w h) (dedC w h cnt mk r) = 99 then _ else _ : Option _).bind _ = _
  by_cases e : lst (gC w h) (dedC w h cnt mk r) = 99
  · rw [if_pos e, if_pos e]; simp only [ob]
  · rw [if_neg e, if_neg e]; simp only [ob]; rfl
