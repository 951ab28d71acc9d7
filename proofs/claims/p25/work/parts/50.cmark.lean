/-! THE CLASS'S BOARD: marks -/
def MB (σ : vSt) (b w h : Nat) (mk : Nat → Nat) : Prop := (∀ e, bt (gL σ b 2) e = decide (e < gE w h ∧ mk e = 1)) ∧ ∀ e, bt (gL σ b 3) e = decide (e < gE w h ∧ mk e = 0)
theorem k_markOf {σ : vSt} {b w h : Nat} {mk : Nat → Nat} (hd : dim w h) (m : MB σ b w h mk) {e : Nat} (he : e < gE w h) (h3 : mk e < 3) : f_X0_markOf b (nI e) σ = some (nI (mk e)) := by
  have h40 := gE_40 hd
  unfold f_X0_markOf
  by_cases a : mk e = 1
  · rw [if_neg (by rw [lsr_test (by omega), m.1]; simp [he, a]), a]
  · rw [if_pos (by rw [lsr_test (by omega), m.1]; simp [a])]
    by_cases c : mk e = 0
    · rw [if_neg (by rw [lsr_test (by omega), m.2]; simp [he, c]), c]
    · rw [if_pos (by rw [lsr_test (by omega), m.2]; simp [c]), show mk e = 2 by omega]
