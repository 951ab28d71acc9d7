/-! THE REFERENCE'S SET PUZZLE: the cells -/
theorem div_dec : ((List.range 16).all fun v => (List.range 4).all fun u => decide ((nI v / nI (u + 1)) * nI 4 + (nI v - nI v / nI (u + 1) * nI (u + 1)) = nI (v / (u + 1) * 4 + v % (u + 1)) ∧ v / (u + 1) * 4 + v % (u + 1) < 64)) = true := by decide +kernel
theorem div_eq {v u : Nat} (hv : v < 16) (hu : u < 4) : (nI v / nI (u + 1)) * nI 4 + (nI v - nI v / nI (u + 1) * nI (u + 1)) = nI (v / (u + 1) * 4 + v % (u + 1)) :=
  (of_decide_eq_true (List.all_eq_true.mp (List.all_eq_true.mp div_dec v (List.mem_range.mpr hv)) u (List.mem_range.mpr hu))).1
theorem m_set1 {w h : Nat} (hw : 1 ≤ w) (hw4 : w ≤ 4) (hh4 : h ≤ 4) : ∀ (n i : Nat) (τ : vSt), i ≤ 16 → 16 < i + n → MD τ w h → gI τ 0 19 = nI w → ∃ τ', f_X7_setPuzzle_41 n (nI i) τ = some τ' ∧ (∀ j, i ≤ j → j < 16 → gI τ' 1 (2 + j) = if gC w h ≤ j then -1 else gI τ 8 (j / w * 4 + j % w)) ∧ (∀ q j, ¬ (q = 1 ∧ 2 + i ≤ j ∧ j < 18) → gI τ' q j = gI τ q j) ∧ τ'.2 = τ.2 := by
  intro n
  induction n with
  | zero => intro i τ h1 h2; omega
  | succ n ih =>
    intro i τ h1 h2 hd h19
    rw [f_X7_setPuzzle_41.eq_2]
    by_cases hi : i = 16
    · rw [hi, if_pos (by decide)]
      exact ⟨τ, rfl, fun j a b => by omega, fun _ _ _ => rfl, rfl⟩
    · have hgo : ∀ v : Int32, v = (if gC w h ≤ i then -1 else gI τ 8 (i / w * 4 + i % w)) → ∃ τ', f_X7_setPuzzle_41 n (nI (i + 1)) (sI τ 1 (2 + i) v) = some τ' ∧ (∀ j, i ≤ j → j < 16 → gI τ' 1 (2 + j) = if gC w h ≤ j then -1 else gI τ 8 (j / w * 4 + j % w)) ∧ (∀ q j, ¬ (q = 1 ∧ 2 + i ≤ j ∧ j < 18) → gI τ' q j = gI τ q j) ∧ τ'.2 = τ.2 := by
        intro v hv
        obtain ⟨τ', e, p1, p2, p3⟩ := ih (i + 1) (sI τ 1 (2 + i) v) (by omega) (by omega) ⟨by rw [sI_ne _ _ (by omega)]; exact hd.1, by rw [sI_ne _ _ (by omega)]; exact hd.2.1, hd.2.2⟩ (by rw [sI_ne _ _ (Or.inl (by decide))]; exact h19)
        refine ⟨τ', e, ?_, ?_, p3⟩
        · intro j a b
          by_cases hj : j = i
          · rw [hj, p2 1 (2 + i) (by omega), sI_same, hv]
          · rw [p1 j (by omega) b, sI_ne _ _ (Or.inl (by decide))]
        · intro q j ha
          rw [p2 q j (by omega), sI_ne _ _ (by omega)]
      obtain ⟨u, rfl⟩ : ∃ u, w = u + 1 := ⟨w - 1, by omega⟩
      have h16 := gC_16 hd.2.2
      rw [if_neg (by rw [nI_leI (by decide) (by omega)]; omega), m_cells hd]
      simp only [ob]
      by_cases c : gC (u + 1) h ≤ i
      · rw [if_pos ((nI_leI (by omega) (by omega)).mpr c), if_pos (g2 (by omega)).2, (g2 (by omega)).1, nI_1 i]
        exact hgo _ (by rw [if_pos c])
      · have hnz : ¬ nI (u + 1) = nI 0 := by rw [nI_eq (by omega) (by decide)]; omega
        have hb : i / (u + 1) * 4 + i % (u + 1) < 16 := by
          have hq : i / (u + 1) < h := Nat.div_lt_of_lt_mul (Nat.not_le.mp c)
          have hm : i % (u + 1) < u + 1 := Nat.mod_lt _ (Nat.succ_pos u)
          generalize i / (u + 1) = a at hq ⊢
          generalize i % (u + 1) = b at hm ⊢
          omega
        rw [if_neg (by rw [nI_leI (by omega) (by omega)]; exact c), h19, if_pos hnz, if_pos hnz, div_eq (by omega) (by omega), if_pos (ig (by omega) (by omega)), if_pos (g2 (by omega)).2, (g2 (by omega)).1, nI_clamp (by omega), nI_1 i]
        exact hgo _ (by rw [if_neg c])
