/-! THE REFERENCE'S START -/
def x0 : Sn := mkS 3 3 (fun _ => -1) z0 (fun _ => nI 0)
theorem m_tail1 : ∀ (n i : Nat) (τ : vSt), i ≤ 16 → 16 < i + n → ∃ τ', f_X7_tail_110 n (nI i) τ = some τ' ∧ (∀ j, i ≤ j → j < 16 → gI τ' 1 (2 + j) = -1) ∧ (∀ q j, ¬ (q = 1 ∧ 2 + i ≤ j ∧ j < 18) → gI τ' q j = gI τ q j) := by
  intro n
  induction n with
  | zero => intro i τ h1 h2; omega
  | succ n ih =>
    intro i τ h1 h2
    rw [f_X7_tail_110.eq_2]
    by_cases hi : i = 16
    · rw [hi, if_pos (by decide)]
      exact ⟨τ, rfl, fun j a b => by omega, fun _ _ _ => rfl⟩
    · rw [if_neg (by rw [nI_leI (by decide) (by omega)]; omega), if_pos (g2 (by omega)).2, (g2 (by omega)).1, nI_1 i]
      obtain ⟨τ', e, p1, p2⟩ := ih (i + 1) (sI τ 1 (2 + i) (-1)) (by omega) (by omega)
      refine ⟨τ', e, ?_, ?_⟩
      · intro j a b
        by_cases hj : j = i
        · rw [hj, p2 1 (2 + i) (by omega), sI_same]
        · exact p1 j (by omega) b
      · intro q j ha
        rw [p2 q j (by omega), sI_ne _ _ (by omega)]
theorem dim_33 : dim 3 3 := by unfold dim; decide
theorem m_tail (σ : vSt) (hz : ∀ q j, gI σ q j = 0) : ∃ τ', f_X7_tail σ = some τ' ∧ RF τ' x0 [] [] := by
  unfold f_X7_tail
  simp only [ob]
  obtain ⟨τ', e, p1, p2⟩ := m_tail1 600 0 (sI (sI σ 1 0 (nI 3)) 1 1 (nI 3)) (by decide) (by decide)
  rw [e]
  simp only [ob]
  have k : ∀ q j, ¬ (q = 1 ∧ j < 18) → gI τ' q j = 0 := fun q j hn => by
    rw [p2 q j (by omega), sI_ne _ _ (by omega), sI_ne _ _ (by omega)]; exact hz q j
  refine ⟨τ', rfl, ?_, ⟨dim_33, fun _ => Nat.zero_lt_succ 2, fun _ _ => rfl, fun _ _ => rfl⟩, ⟨k 0 2 (by omega), Nat.zero_le _, fun s y hy => absurd hy (by simp)⟩, ⟨k 0 4 (by omega), Nat.zero_le _, fun i c hc => absurd hc (by simp)⟩⟩
  intro j hj
  show _ = if j = 0 then nI 3 else if j = 1 then nI 3 else if j < 18 then -1 else if j < 58 then nI 0 else nI 0
  by_cases d1 : j = 0
  · rw [d1, if_pos rfl, p2 1 0 (by omega), sI_ne _ _ (by simp), sI_same]
  rw [if_neg d1]
  by_cases d2 : j = 1
  · rw [d2, if_pos rfl, p2 1 1 (by omega), sI_same]
  rw [if_neg d2]
  by_cases d3 : j < 18
  · rw [if_pos d3]
    have := p1 (j - 2) (Nat.zero_le _) (by omega)
    rw [show 2 + (j - 2) = j by omega] at this
    exact this
  · rw [if_neg d3, p2 1 j (by omega), sI_ne _ _ (by omega), sI_ne _ _ (by omega), hz]
    split <;> rfl
