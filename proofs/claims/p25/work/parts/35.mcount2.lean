/-! THE REFERENCE'S EDGE AT, COUNT -/
def oI : Option Nat → Int32
  | some y => nI y
  | none => -1
theorem nI_ng {a : Int32} (h : nI 0 ≤ a) : ∃ k, k < 2 ^ 31 ∧ a = nI k := by
  have h1 : ¬ a < nI 0 := by
    rw [Int32.le_iff_toInt_le] at h
    rw [Int32.lt_iff_toInt_lt]
    omega
  obtain ⟨k, hk, e, _⟩ := nI_gel (by decide) h1
  exact ⟨k, hk, e⟩
theorem nI_nn (k : Nat) (hk : k < 2 ^ 31) : nI 0 ≤ nI k := (nI_leI (by decide) hk).mpr (Nat.zero_le _)
theorem m_edgeAt0 {τ : vSt} {x : Sn} {L : List Sn} {T : List Int32} (q : RF τ x L T) (a b : Int32) : (∃ p k, p < gC x.w x.h ∧ k < 2 ^ 31 ∧ a = nI p ∧ b = nI k ∧ f_X7_edgeAt (nI 0) a b τ = some (oI ((gArL x.w x.h p)[k]?))) ∨ (((∀ p, p < gC x.w x.h → a ≠ nI p) ∨ ¬ nI 0 ≤ b) ∧ f_X7_edgeAt (nI 0) a b τ = some (-2)) := by
  have hd := q.2.1.1
  have h16 := gC_16 hd
  have hp := gE_pos hd
  unfold f_X7_edgeAt
  rw [if_pos rfl, m_cells q.mg.1]
  simp only [ob]
  rcases m_inN (a := a) hp.2 (by omega) with ⟨p, he, rfl, hi⟩ | ⟨hn, hi⟩
  · rw [hi]
    simp only [ob]
    rw [if_neg (by decide)]
    by_cases c : nI 0 ≤ b
    · obtain ⟨k, hk, rfl⟩ := nI_ng c
      rw [if_pos c, if_pos trivial]
      refine Or.inl ⟨p, k, he, hk, rfl, rfl, ?_⟩
      by_cases h4 : 4 ≤ k
      · rw [if_pos ((nI_leI (by decide) hk).mpr h4), List.getElem?_eq_none (by exact h4)]
        rfl
      · rw [if_neg (by rw [nI_leI (by decide) hk]; exact h4), m_around q.mg.1 he (by omega)]
        simp only [ob]
        rcases (show k = 0 ∨ k = 1 ∨ k = 2 ∨ k = 3 by omega) with rfl | rfl | rfl | rfl <;> rfl
    · rw [if_neg c]
      exact Or.inr ⟨Or.inr c, rfl⟩
  · rw [hi]
    exact Or.inr ⟨Or.inl hn, rfl⟩
theorem gK_pos {w h : Nat} (hd : dim w h) : 0 < gK w h := by
  have hb : dimAll (fun w h => decide (0 < gK w h)) = true := by decide +kernel
  exact of_decide_eq_true (dimAll_of hb hd)
theorem m_edgeAt1 {τ : vSt} {x : Sn} {L : List Sn} {T : List Int32} (q : RF τ x L T) (a b : Int32) : (∃ p k, p < gK x.w x.h ∧ k < 2 ^ 31 ∧ a = nI p ∧ b = nI k ∧ f_X7_edgeAt (nI 1) a b τ = some (oI ((gToL x.w x.h p)[k]?))) ∨ (((∀ p, p < gK x.w x.h → a ≠ nI p) ∨ ¬ nI 0 ≤ b) ∧ f_X7_edgeAt (nI 1) a b τ = some (-2)) := by
  have hd := q.2.1.1
  have h25 := gK_25 hd
  have hp := gK_pos hd
  unfold f_X7_edgeAt
  rw [if_neg (by decide), m_corners q.mg.1]
  simp only [ob]
  rcases m_inN (a := a) hp (by omega) with ⟨p, he, rfl, hi⟩ | ⟨hn, hi⟩
  · rw [hi]
    simp only [ob]
    rw [if_neg (by decide)]
    by_cases c : nI 0 ≤ b
    · obtain ⟨k, hk, rfl⟩ := nI_ng c
      have hx := m_ea1 q.mg.1 he hk 4 0 0 595 (by decide) (Nat.zero_le _) (Nat.le_refl _)
      have hx' : f_X7_edgeAt_58 (nI p) (nI k) τ 600 (nI 0) (nI 0) = some (opI ((gToL x.w x.h p)[k]?)) := by
        rw [← gTs_4]; exact hx
      rw [if_pos c, if_neg (by decide), hx']
      simp only [ob]
      refine Or.inl ⟨p, k, he, hk, rfl, rfl, ?_⟩
      cases (gToL x.w x.h p)[k]? <;> rfl
    · rw [if_neg c]
      exact Or.inr ⟨Or.inr c, rfl⟩
  · rw [hi]
    exact Or.inr ⟨Or.inl hn, rfl⟩
noncomputable def cntV (x : Sn) (L : List Sn) (T : List Int32) (k : Nat) : Int32 := if k = 0 then nI x.w else if k = 1 then nI x.h else if k = 2 then nI (gE x.w x.h) else if k = 3 then nI (cnP (gE x.w x.h) (fun e => x.mk e = 0)) else if k = 4 then nI (cnP (gE x.w x.h) (fun e => x.mk e = 1)) else if k = 5 then nI (cnP (gC x.w x.h) (fun c => ¬ x.cnt c = -1)) else if k < 14 then x.us (k - 6) else if k = 14 then nI L.length else nI T.length
theorem m_count {τ : vSt} {x : Sn} {L : List Sn} {T : List Int32} (q : RF τ x L T) (a : Int32) : (∃ k, k ≤ 15 ∧ a = nI k ∧ f_X7_count a τ = some (cntV x L T k)) ∨ ((∀ k, k ≤ 15 → a ≠ nI k) ∧ f_X7_count a τ = some (-2)) := by
  unfold f_X7_count
  rcases m_in (a := a) (lo := 6) (M := 13) (by decide) (by decide) with ⟨k, h1, h2, rfl, hi⟩ | ⟨hn, hi⟩
  · rw [hi]
    simp only [ob]
    rw [if_neg (by decide)]
    have hs : (nI 58 + nI k) - nI 6 = nI 58 + nI (k - 6) := by
      rcases (show k = 6 ∨ k = 7 ∨ k = 8 ∨ k = 9 ∨ k = 10 ∨ k = 11 ∨ k = 12 ∨ k = 13 by omega) with rfl | rfl | rfl | rfl | rfl | rfl | rfl | rfl <;> rfl
    rw [hs, if_pos (g58 (by omega)).2, (g58 (by omega)).1, CU_us q.1 (by omega)]
    refine Or.inl ⟨k, by omega, rfl, ?_⟩
    unfold cntV
    rw [if_neg (by omega), if_neg (by omega), if_neg (by omega), if_neg (by omega), if_neg (by omega), if_neg (by omega), if_pos (by omega)]
  · rw [hi]
    simp only [ob]
    rw [if_pos trivial]
    by_cases c0 : a = nI 0
    · subst c0
      rw [if_pos rfl, if_pos (ig (by decide) (by decide))]
      exact Or.inl ⟨0, by decide, rfl, by rw [nI_clamp (by decide), q.mg.1.1]; rfl⟩
    rw [if_neg c0]
    by_cases c1 : a = nI 1
    · subst c1
      rw [if_pos rfl, if_pos (ig (by decide) (by decide))]
      exact Or.inl ⟨1, by decide, rfl, by rw [nI_clamp (by decide), q.mg.1.2.1]; rfl⟩
    rw [if_neg c1]
    by_cases c2 : a = nI 2
    · subst c2
      rw [if_pos rfl, m_edges q.mg.1]
      exact Or.inl ⟨2, by decide, rfl, rfl⟩
    rw [if_neg c2]
    by_cases c3 : a = nI 3
    · subst c3
      have hm := m_marked q.mg (v := 0) (by decide)
      rw [if_pos rfl, show nI 3 - nI 3 = nI 0 from rfl, hm]
      exact Or.inl ⟨3, by decide, rfl, rfl⟩
    rw [if_neg c3]
    by_cases c4 : a = nI 4
    · subst c4
      have hm := m_marked q.mg (v := 1) (by decide)
      rw [if_pos rfl, show nI 4 - nI 3 = nI 1 from rfl, hm]
      exact Or.inl ⟨4, by decide, rfl, rfl⟩
    rw [if_neg c4]
    by_cases c5 : a = nI 5
    · subst c5
      rw [if_pos rfl, m_counts q.mg]
      exact Or.inl ⟨5, by decide, rfl, rfl⟩
    rw [if_neg c5]
    rw [if_neg (hn 6 (by decide) (by decide)), if_neg (hn 7 (by decide) (by decide)), if_neg (hn 8 (by decide) (by decide)), if_neg (hn 9 (by decide) (by decide)), if_neg (hn 10 (by decide) (by decide)), if_neg (hn 11 (by decide) (by decide)), if_neg (hn 12 (by decide) (by decide)), if_neg (hn 13 (by decide) (by decide))]
    by_cases c14 : a = nI 14
    · subst c14
      rw [if_pos rfl, q.2.2.1.1]
      exact Or.inl ⟨14, by decide, rfl, rfl⟩
    rw [if_neg c14]
    by_cases c15 : a = nI 15
    · subst c15
      rw [if_pos rfl, q.2.2.2.1]
      exact Or.inl ⟨15, by decide, rfl, rfl⟩
    rw [if_neg c15]
    refine Or.inr ⟨fun k hk e => ?_, rfl⟩
    rcases (show k = 0 ∨ k = 1 ∨ k = 2 ∨ k = 3 ∨ k = 4 ∨ k = 5 ∨ (6 ≤ k ∧ k ≤ 13) ∨ k = 14 ∨ k = 15 by omega) with rfl | rfl | rfl | rfl | rfl | rfl | ⟨z1, z2⟩ | rfl | rfl
    · exact c0 e
    · exact c1 e
    · exact c2 e
    · exact c3 e
    · exact c4 e
    · exact c5 e
    · exact hn k z1 z2 e
    · exact c14 e
    · exact c15 e
