/-! THE REFERENCE'S SET PUZZLE: the marks -/
theorem m_set2 : ∀ (n i : Nat) (τ : vSt), 18 ≤ i → i ≤ 66 → 66 < i + n → ∃ τ', f_X7_setPuzzle_96 n (nI i) τ = some τ' ∧ (∀ j, i ≤ j → j < 66 → gI τ' 1 j = nI 0) ∧ (∀ q j, ¬ (q = 1 ∧ i ≤ j ∧ j < 66) → gI τ' q j = gI τ q j) ∧ τ'.2 = τ.2 := by
  intro n
  induction n with
  | zero => intro i τ h0 h1 h2; omega
  | succ n ih =>
    intro i τ h0 h1 h2
    rw [f_X7_setPuzzle_96.eq_2]
    by_cases hi : i = 66
    · rw [hi, if_pos (by decide)]
      exact ⟨τ, rfl, fun j a b => by omega, fun _ _ _ => rfl, rfl⟩
    · rw [if_neg (by rw [nI_leI (by decide) (by omega)]; omega), if_pos (ig (by omega) (by omega)), nI_clamp (by omega), nI_1 i]
      obtain ⟨τ', e, p1, p2, p3⟩ := ih (i + 1) (sI τ 1 i (nI 0)) (by omega) (by omega) (by omega)
      refine ⟨τ', e, ?_, ?_, p3⟩
      · intro j a b
        by_cases hj : j = i
        · rw [hj, p2 1 i (by omega), sI_same]
        · exact p1 j (by omega) b
      · intro q j ha
        rw [p2 q j (by omega), sI_ne _ _ (by omega)]
def pzS (w h : Nat) (cs : List Int32) : Sn := mkS w h (fun c => if gC w h ≤ c then -1 else txV cs c) z0 (fun _ => nI 0)
