/-! THE LAW'S LOOKS: cells, corners -/
theorem cn3 {mk : Nat → Nat} (h3 : ∀ e, mk e < 3) : ∀ L : List Nat, L.countP (fun e => decide (mk e = 0)) + L.countP (fun e => decide (mk e = 1)) + L.countP (fun e => decide (mk e = 2)) = L.length := by
  intro L
  induction L with
  | nil => rfl
  | cons a t ih =>
    rw [List.countP_cons, List.countP_cons, List.countP_cons, List.length_cons, ← ih]
    have h := h3 a
    rcases (show mk a = 0 ∨ mk a = 1 ∨ mk a = 2 by omega) with e | e | e
    · simp [e]; omega
    · simp [e]; omega
    · simp [e]; omega
theorem nAr_sum {w h c : Nat} {mk : Nat → Nat} (h3 : ∀ e, mk e < 3) : nAr w h mk c 0 + nAr w h mk c 1 + nAr w h mk c 2 = 4 := cn3 h3 (gArL w h c)
def qS (j : Nat) : Int32 ⊕ Unit := if j = 99 then .inr () else .inl (nI j)
theorem q_cells {σ : vSt} {w h : Nat} (hd : PD σ w h) : gI σ 30 0 * gI σ 30 1 = nI (gC w h) := by
  rw [hd.1, hd.2.1]; exact nI_mul w h
theorem sub4 {a : Nat} (ha : a ≤ 3) : nI 4 - nI a = nI (4 - a) := by
  rcases (show a = 0 ∨ a = 1 ∨ a = 2 ∨ a = 3 by omega) with rfl | rfl | rfl | rfl <;> decide
theorem cok_or {a : Int32} (h : cok a) : a = -1 ∨ ∃ k, k ≤ 3 ∧ a = nI k := by
  rcases h with h | h | h | h | h
  · exact Or.inl h
  · exact Or.inr ⟨0, by decide, h⟩
  · exact Or.inr ⟨1, by decide, h⟩
  · exact Or.inr ⟨2, by decide, h⟩
  · exact Or.inr ⟨3, by decide, h⟩
theorem m1_lt0 : (-1 : Int32) < nI 0 := by decide
theorem q_firstCell2 {σ : vSt} {w h : Nat} {cnt : Nat → Int32} {mk : Nat → Nat} (p : PG σ w h cnt mk) : ∀ (n i : Nat), i ≤ gC w h → gC w h < i + n → f_L_firstCell_2 σ n (nI i) = some (qS (lsF (badC w h cnt mk) i (gC w h - i))) := by
  have hd := p.1.2.2
  have h16 := gC_16 hd
  intro n
  induction n with
  | zero => intro i a b; omega
  | succ n ih =>
    intro i a b
    rw [f_L_firstCell_2.eq_2, q_cells p.1]
    by_cases z : gC w h ≤ i
    · rw [if_pos ((nI_leI (by omega) (by omega)).mpr z), show gC w h - i = 0 by omega]
      rfl
    · have hi : i < gC w h := by omega
      rw [if_neg (by rw [nI_leI (by omega) (by omega)]; exact z), nI_add, if_pos (ig (by omega) (by omega)), nI_clamp (by omega), p.2.1 i hi, q_around p hi (by decide), q_around p hi (by decide), nI_1 i]
      simp only [ob]
      rw [if_pos (ig (by omega) (by omega)), if_pos (ig (by omega) (by omega))]
      have hs := nAr_sum (w := w) (h := h) (c := i) p.2.2.2.1
      have hskip : ¬ badC w h cnt mk i → f_L_firstCell_2 σ n (nI (i + 1)) = some (qS (lsF (badC w h cnt mk) i (gC w h - i))) := by
        intro q
        rw [lsF_n hi q]
        exact ih (i + 1) (by omega) (by omega)
      have hfind : badC w h cnt mk i → (some (.inl (nI i)) : Option (Int32 ⊕ Unit)) = some (qS (lsF (badC w h cnt mk) i (gC w h - i))) := by
        intro q
        rw [lsF_y hi q]
        unfold qS
        rw [if_neg (by omega)]
      rcases cok_or (p.2.2.2.2 i) with e | ⟨k, hk, e⟩
      · rw [e, if_pos m1_lt0]
        exact hskip (fun q => q.1 e)
      · rw [e, if_neg (by rw [nI_ltI (by omega) (by decide)]; omega), sub4 hk]
        have hbad : badC w h cnt mk i ↔ k < nAr w h mk i 1 ∨ ¬ k ≤ nAr w h mk i 1 + nAr w h mk i 0 := by
          unfold badC
          rw [e, nI_ltI (by omega) (by omega), nI_leI (by omega) (by omega)]
          exact ⟨fun q => q.2, fun q => ⟨nI_nem1 (by omega), q⟩⟩
        by_cases c1 : k < nAr w h mk i 1
        · rw [if_pos ((nI_ltI (by omega) (by omega)).mpr c1)]
          exact hfind (hbad.mpr (Or.inl c1))
        · rw [if_neg (by rw [nI_ltI (by omega) (by omega)]; exact c1)]
          by_cases c2 : nAr w h mk i 2 ≤ 4 - k
          · rw [if_pos ((nI_leI (by omega) (by omega)).mpr c2)]
            exact hskip (fun q => by rcases hbad.mp q with q | q <;> omega)
          · rw [if_neg (by rw [nI_leI (by omega) (by omega)]; exact c2)]
            exact hfind (hbad.mpr (Or.inr (by omega)))
theorem q_out {j : Nat} : ((some (qS j)).bind fun φ4 => match φ4 with | .inl r9 => some r9 | .inr () => some (-1 : Int32)) = some (tI j) := by
  unfold qS tI
  by_cases h : j = 99
  · rw [if_pos h, if_pos h]; rfl
  · rw [if_neg h, if_neg h]; rfl
theorem q_firstCell {σ : vSt} {w h : Nat} {cnt : Nat → Int32} {mk : Nat → Nat} (p : PG σ w h cnt mk) : f_L_firstCell σ = some (tI (lst (gC w h) (badC w h cnt mk))) := by
  have h16 := gC_16 p.1.2.2
  have e := q_firstCell2 p 600 0 (Nat.zero_le _) (by omega)
  unfold f_L_firstCell
  rw [e]
  exact q_out
theorem q_firstCorner2 {σ : vSt} {w h : Nat} {cnt : Nat → Int32} {mk : Nat → Nat} (p : PG σ w h cnt mk) : ∀ (n i : Nat), i ≤ gK w h → gK w h < i + n → f_L_firstCorner_2 σ n (nI i) = some (qS (lsF (badK w h mk) i (gK w h - i))) := by
  have hd := p.1.2.2
  have h25 := gK_25 hd
  intro n
  induction n with
  | zero => intro i a b; omega
  | succ n ih =>
    intro i a b
    rw [f_L_firstCorner_2.eq_2, q_corners p.1]
    simp only [ob]
    by_cases z : gK w h ≤ i
    · rw [if_pos ((nI_leI (by omega) (by omega)).mpr z), show gK w h - i = 0 by omega]
      rfl
    · have hi : i < gK w h := by omega
      rw [if_neg (by rw [nI_leI (by omega) (by omega)]; exact z), q_at p hi (by decide), q_at p hi (by decide), nI_1 i]
      simp only [ob]
      have l1 := nTo_le w h mk i 1
      have l0 := nTo_le w h mk i 0
      have hskip : ¬ badK w h mk i → f_L_firstCorner_2 σ n (nI (i + 1)) = some (qS (lsF (badK w h mk) i (gK w h - i))) := by
        intro q
        rw [lsF_n hi q]
        exact ih (i + 1) (by omega) (by omega)
      have hfind : badK w h mk i → (some (.inl (nI i)) : Option (Int32 ⊕ Unit)) = some (qS (lsF (badK w h mk) i (gK w h - i))) := by
        intro q
        rw [lsF_y hi q]
        unfold qS
        rw [if_neg (by omega)]
      by_cases c1 : 2 < nTo w h mk i 1
      · rw [if_pos ((nI_ltI (by omega) (by omega)).mpr c1)]
        exact hfind (Or.inl c1)
      · rw [if_neg (by rw [nI_ltI (by omega) (by omega)]; exact c1)]
        by_cases c2 : nTo w h mk i 1 = 1
        · rw [if_pos (by rw [c2])]
          by_cases c3 : nTo w h mk i 0 = 0
          · rw [if_pos (by rw [c3])]
            exact hfind (Or.inr ⟨c2, c3⟩)
          · rw [if_neg (by rw [nI_eq (by omega) (by decide)]; exact c3)]
            exact hskip (fun q => by rcases q with q | q <;> omega)
        · rw [if_neg (by rw [nI_eq (by omega) (by decide)]; exact c2)]
          exact hskip (fun q => by rcases q with q | q <;> omega)
theorem q_firstCorner {σ : vSt} {w h : Nat} {cnt : Nat → Int32} {mk : Nat → Nat} (p : PG σ w h cnt mk) : f_L_firstCorner σ = some (tI (lst (gK w h) (badK w h mk))) := by
  have h25 := gK_25 p.1.2.2
  have e := q_firstCorner2 p 600 0 (Nat.zero_le _) (by omega)
  unfold f_L_firstCorner
  rw [e]
  exact q_out
theorem q_isMet2 {σ : vSt} {w h : Nat} {cnt : Nat → Int32} {mk : Nat → Nat} (p : PG σ w h cnt mk) : ∀ (n i : Nat), i ≤ gC w h → gC w h < i + n → (∀ c, c < i → cnt c = -1 ∨ nI (nAr w h mk c 1) = cnt c) → (met w h cnt mk ∧ f_L_isMet_2 σ n (nI i) = some (.inr ())) ∨ (¬ met w h cnt mk ∧ f_L_isMet_2 σ n (nI i) = some (.inl (nI 0))) := by
  have hd := p.1.2.2
  have h16 := gC_16 hd
  intro n
  induction n with
  | zero => intro i a b; omega
  | succ n ih =>
    intro i a b hm
    rw [f_L_isMet_2.eq_2, q_cells p.1]
    by_cases z : gC w h ≤ i
    · rw [if_pos ((nI_leI (by omega) (by omega)).mpr z)]
      exact Or.inl ⟨fun c hc => hm c (by omega), rfl⟩
    · have hi : i < gC w h := by omega
      rw [if_neg (by rw [nI_leI (by omega) (by omega)]; exact z), nI_add, if_pos (ig (by omega) (by omega)), nI_clamp (by omega), p.2.1 i hi, q_around p hi (by decide), nI_1 i]
      simp only [ob]
      rw [if_pos (ig (by omega) (by omega))]
      have hgo : (cnt i = -1 ∨ nI (nAr w h mk i 1) = cnt i) → (met w h cnt mk ∧ f_L_isMet_2 σ n (nI (i + 1)) = some (.inr ())) ∨ (¬ met w h cnt mk ∧ f_L_isMet_2 σ n (nI (i + 1)) = some (.inl (nI 0))) := by
        intro q
        refine ih (i + 1) (by omega) (by omega) (fun c hc => ?_)
        by_cases y : c = i
        · rw [y]; exact q
        · exact hm c (by omega)
      rcases cok_or (p.2.2.2.2 i) with e | ⟨k, hk, e⟩
      · rw [e, if_pos m1_lt0]
        exact hgo (Or.inl e)
      · rw [e, if_neg (by rw [nI_ltI (by omega) (by decide)]; omega)]
        by_cases c1 : nI (nAr w h mk i 1) = nI k
        · rw [if_pos c1]
          exact hgo (Or.inr (by rw [e]; exact c1))
        · rw [if_neg c1]
          refine Or.inr ⟨fun q => ?_, rfl⟩
          rcases q i hi with q | q
          · rw [e] at q; exact nI_nem1 (by omega) q
          · rw [e] at q; exact c1 q
theorem q_isMet {σ : vSt} {w h : Nat} {cnt : Nat → Int32} {mk : Nat → Nat} (p : PG σ w h cnt mk) : f_L_isMet σ = some (pI (met w h cnt mk)) := by
  have h16 := gC_16 p.1.2.2
  unfold f_L_isMet
  rcases q_isMet2 p 600 0 (Nat.zero_le _) (by omega) (fun c hc => absurd hc (Nat.not_lt_zero c)) with ⟨a, e⟩ | ⟨a, e⟩
  · have e' : f_L_isMet_2 σ 600 (nI 0) = some (.inr ()) := e
    rw [e', pI_t a]; rfl
  · have e' : f_L_isMet_2 σ 600 (nI 0) = some (.inl (nI 0)) := e
    rw [e', pI_f a]; rfl
