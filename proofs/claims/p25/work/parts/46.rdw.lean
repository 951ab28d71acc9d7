/-! THE READING'S WIDTH -/
theorem rdT_w {N : Nat} : ∀ (ts : List (Int32 × Nat)) (col width rows : Nat) (acc : List Int32) (w h : Nat) (cs : List Int32), (rows = 1 ∨ 0 < width) → 1 ≤ rows → rdT N ts col width rows acc = .inl (w, h, cs) → 0 < w := by
  have her : ∀ (col width rows : Nat), (rows = 1 ∨ 0 < width) → erB col width rows = true → 0 < col := by
    intro col width rows hr e
    unfold erB at e
    by_cases a : rows = 1
    · rw [if_pos a] at e; exact of_decide_eq_true e
    · rw [if_neg a] at e
      have := of_decide_eq_true e
      omega
  intro ts
  induction ts with
  | nil =>
    intro col width rows acc w h cs hr _ e
    unfold rdT at e
    by_cases a : erB col width rows = true
    · rw [if_pos a] at e
      have := (Prod.mk.inj (Sum.inl.inj e)).1
      rw [← this]; exact her _ _ _ hr a
    · rw [if_neg a] at e; exact absurd e (by simp)
  | cons t ts ih =>
    obtain ⟨c, p⟩ := t
    intro col width rows acc w h cs hr h1 e
    unfold rdT at e
    by_cases c1 : c = nI 47
    · rw [if_pos c1] at e
      by_cases a : erB col width rows = true
      · rw [if_pos a] at e
        by_cases b : rows = 4
        · rw [if_pos b] at e; exact absurd e (by simp)
        · rw [if_neg b] at e
          exact ih _ _ _ _ _ _ _ (Or.inr (her _ _ _ hr a)) (by omega) e
      · rw [if_neg a] at e; exact absurd e (by simp)
    · rw [if_neg c1] at e
      by_cases a : isC c = true
      · rw [if_pos a] at e
        by_cases b : width ≤ col
        · rw [if_pos b] at e; exact absurd e (by simp)
        · rw [if_neg b] at e
          by_cases d : acc.length < 16
          · rw [if_pos d] at e; exact ih _ _ _ _ _ _ _ hr h1 e
          · rw [if_neg d] at e; exact absurd e (by simp)
      · rw [if_neg a] at e; exact absurd e (by simp)
