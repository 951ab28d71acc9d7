/-! THE CLASS'S GRID: its fields -/
def GF (σ : vSt) (w h : Nat) : Prop := dim w h ∧ gI σ 0 5 = nI w ∧ gI σ 0 6 = nI h ∧ gI σ 0 7 = nI (gC w h) ∧ gI σ 0 8 = nI (gK w h) ∧ gI σ 0 9 = nI (gE w h)
theorem k_hasEdge {σ : vSt} {w h : Nat} (g : GF σ w h) (a : Int32) : (∃ e, e < gE w h ∧ a = nI e ∧ f_X1_hasEdge a σ = some (nI 1)) ∨ ((∀ e, e < gE w h → a ≠ nI e) ∧ f_X1_hasEdge a σ = some (nI 0)) := by
  have h40 := gE_40 g.1
  unfold f_X1_hasEdge
  rw [g.2.2.2.2.2]
  by_cases h1 : a < nI 0
  · rw [if_pos h1]
    refine Or.inr ⟨fun e he q => ?_, rfl⟩
    rw [q, nI_ltI (by omega) (by decide)] at h1
    omega
  · rw [if_neg h1]
    obtain ⟨j, hj, rfl, _⟩ := nI_gel (by decide) h1
    by_cases h2 : gE w h ≤ j
    · rw [if_pos ((nI_leI (by omega) hj).mpr h2)]
      refine Or.inr ⟨fun e he q => ?_, rfl⟩
      rw [nI_eq hj (by omega)] at q
      omega
    · rw [if_neg (by rw [nI_leI (by omega) hj]; exact h2)]
      exact Or.inl ⟨j, by omega, rfl, rfl⟩
