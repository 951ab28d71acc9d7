/-! THE REFERENCE'S READING: the whole of it -/
theorem m_reads {τ : vSt} {T : List Int32} (ht : TX τ T) (okT : ∀ i, i < T.length → ¬ txV T i = -1) : ∃ τ', f_X7_reads τ = some τ' ∧ Fr WQ τ τ' ∧ ((∃ q, rdT T.length (tk T 0) 0 4 1 [] = .inr q ∧ q ≤ T.length ∧ gI τ' 0 22 = nI q) ∨ (∃ w h cs, rdT T.length (tk T 0) 0 4 1 [] = .inl (w, h, cs) ∧ w ≤ 4 ∧ 1 ≤ h ∧ h ≤ 4 ∧ erB w w h = true ∧ gI τ' 0 22 = -1 ∧ gI τ' 0 19 = nI w ∧ gI τ' 0 20 = nI h ∧ cs.length = h * w ∧ ∀ r j, r < h → j < w → cs[r * w + j]? = some (gI τ' 8 (r * 4 + j)))) := by
  have k : ∀ q j, ¬ (q = 0 ∧ (j = 20 ∨ j = 21 ∨ j = 22)) → gI (sI (sI (sI τ 0 21 (nI 0)) 0 22 (-1 : Int32)) 0 20 (nI 0)) q j = gI τ q j := fun q j hn => by rw [sI_ne _ _ (by omega), sI_ne _ _ (by omega), sI_ne _ _ (by omega)]
  have fa : Fr WQ τ (sI (sI (sI τ 0 21 (nI 0)) 0 22 (-1 : Int32)) 0 20 (nI 0)) := ((Fr.rf.wr (Or.inr ⟨rfl, by decide, by decide⟩) (by decide)).wr (Or.inr ⟨rfl, by decide, by decide⟩) (by decide)).wr (Or.inr ⟨rfl, by decide, by decide⟩) (by decide)
  obtain ⟨τ1, p1, col, acc1, e1, e2, e3, e4, e5, e6, e7, e8, e9, e10, e11⟩ := m_readsRow (T := T) (width := 4) (rr := 0) (N := T.length) (least := 1) (by decide) (by decide) (Or.inl ⟨rfl, rfl⟩) (p := 0) (acc := []) (τ := sI (sI (sI τ 0 21 (nI 0)) 0 22 (-1 : Int32)) 0 20 (nI 0)) (Nat.zero_le _) (ht.same (k 0 4 (by omega)) (fun j => k 3 j (by omega))) (by rw [sI_ne _ _ (by simp), sI_ne _ _ (by simp), sI_same]) (sI_same _ _ _ _) ⟨rfl, fun r j hrj => by omega⟩
  unfold f_X7_reads
  rw [e1]
  simp only [ob]
  rw [e7]
  obtain ⟨τ2, p2, col', k', Wd, acc, g1, g2, g3, g4, g5⟩ := m_reads1 (T := T) (N := T.length) (W := col) e3 600 p1 col 1 4 acc1 τ1 _ ⟨e2, e3, by decide, by decide, by decide, fun _ => rfl, fun z => absurd rfl z, e4, e5, e6, e7, e8, e10⟩ (by decide) e9
  rw [g1]
  simp only [ob]
  obtain ⟨l1, l2, l3, l4, l5, l6, l7, l8, l9, l10, l11, l12, l13⟩ := g2
  have hR : rdT T.length (tk T 0) 0 4 1 [] = rdT T.length (tk (T.drop p2) p2) col' Wd k' acc := e11.trans g4
  have f2 : Fr WQ τ τ2 := fa.tr g3
  obtain ⟨τ3, f3, ⟨x1, x2, x3⟩ | ⟨p', y0, y1, y2, y3⟩⟩ := m_next l1 l8 l9
  · have f3q : Fr WQ τ τ3 := f2.tr (f3.mono (fun q j z => by unfold WA at z; unfold WQ; omega))
    rw [x2]
    simp only [ob]
    rw [if_pos trivial]
    rw [hR, x1]
    by_cases a : erB col' Wd k' = true
    · rw [a, if_neg (show ¬ vOK true = nI 0 by decide)]
      refine ⟨sI τ3 0 22 (-1 : Int32), rfl, f3q.wr (Or.inr ⟨rfl, by decide, by decide⟩) (by decide), Or.inr ⟨col', k', acc, if_pos a, by omega, l4, l5, ?_, sI_same _ _ _ _, ?_, ?_, ?_, ?_⟩⟩
      · unfold erB at a ⊢
        by_cases k1 : k' = 1
        · rw [if_pos k1] at a ⊢; exact a
        · rw [if_neg k1]; exact decide_eq_true rfl
      · rw [sI_ne _ _ (by simp), f3.2.1 0 19 (fun z => by have := z.2; omega)]; exact l11
      · rw [sI_ne _ _ (by simp), f3.2.1 0 20 (fun z => by have := z.2; omega)]; exact l10
      · have hx := (l12.next (by
          by_cases k1 : k' = 1
          · exact Or.inl (by omega)
          · unfold erB at a; rw [if_neg k1] at a; exact Or.inr (of_decide_eq_true a))).1
        rw [show k' - 1 + 1 = k' by omega] at hx
        exact hx
      · intro r j hr hj
        have hx := (l12.next (by
          by_cases k1 : k' = 1
          · exact Or.inl (by omega)
          · unfold erB at a; rw [if_neg k1] at a; exact Or.inr (of_decide_eq_true a))).2 r j (Or.inl ⟨by omega, hj⟩)
        rw [sI_ne _ _ (by simp), f3.2.1 8 _ (fun z => by have := z.1; omega)]
        exact hx
    · have a' : erB col' Wd k' = false := by
        cases q : erB col' Wd k'
        · rfl
        · exact absurd q a
      rw [a', if_pos (show vOK false = nI 0 from rfl)]
      exact ⟨sI τ3 0 22 (gI τ3 0 21), rfl, f3q.wr (Or.inr ⟨rfl, by decide, by decide⟩) (by decide), Or.inl ⟨T.length, if_neg a, Nat.le_refl _, by rw [sI_same]; exact x3⟩⟩
  · have f3q : Fr WQ τ τ3 := f2.tr (f3.mono (fun q j z => by unfold WA at z; unfold WQ; omega))
    have c32 : ¬ txV T p' = nI 32 := tk_ne _ _ _ _ _ y1
    have h22 : rdT T.length (tk T 0) 0 4 1 [] = .inr p' := by
      rw [hR, y1]
      show (if txV T p' = nI 47 then (if erB col' Wd k' = true then (if k' = 4 then _ else _) else _) else (if isC (txV T p') = true then (if Wd ≤ col' then _ else _) else _)) = _
      by_cases c : txV T p' = nI 47
      · have hs := g5 _ _ _ y1 c
        rw [if_pos c]
        by_cases a : erB col' Wd k' = true
        · by_cases b : k' = 4
          · rw [if_pos a, if_pos b]
          · exact absurd ⟨a, b⟩ hs
        · rw [if_neg a]
      · rw [if_neg c]
        by_cases d : isC (txV T p') = true
        · rw [if_pos d]
          rcases l13 with z | z | ⟨z1, z2, z3⟩
          · rw [if_pos (by omega)]
          · rw [z, tk_end (Nat.le_refl _)] at y1; exact absurd y1 (by simp)
          · rw [tk_ch z1 z2] at y1
            have := (Prod.mk.inj (List.cons.inj y1).1).1
            rw [this, d] at z3
            exact absurd z3 (by decide)
        · rw [if_neg d]
    rw [y2]
    simp only [ob]
    rw [if_neg (okT p' y0)]
    exact ⟨sI τ3 0 22 (gI τ3 0 21), rfl, f3q.wr (Or.inr ⟨rfl, by decide, by decide⟩) (by decide), Or.inl ⟨p', h22, by omega, by rw [sI_same]; exact y3⟩⟩
