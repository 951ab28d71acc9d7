/-! THE CLASS'S TEXT: read, append -/
theorem k_read {σ : vSt} {T : List Int32} (ht : TC σ T) : ∃ σ', Fc σ σ' ∧ ((∃ q, rdT T.length (tk T 0) 0 4 1 [] = .inr q ∧ f_X5_read σ = some (nI q, σ')) ∨ (∃ w h cs, rdT T.length (tk T 0) 0 4 1 [] = .inl (w, h, cs) ∧ w ≤ 4 ∧ h ≤ 4 ∧ f_X5_read σ = some (-1, σ') ∧ gI σ' 27 3 = nI w ∧ gI σ' 27 4 = nI h ∧ AC σ' cs)) := by
  have h40 := ht.2.1
  unfold f_X5_read
  simp only [ob]
  have f1 : Fc σ (sI (sI (sI σ 27 3 (nI 4)) 27 4 (nI 1)) 27 5 (nI 0)) := ((Fc.rf.wr (Or.inl ⟨rfl, Or.inl rfl⟩)).wr (Or.inl ⟨rfl, Or.inr (Or.inl rfl)⟩)).wr (Or.inl ⟨rfl, Or.inr (Or.inr rfl)⟩)
  obtain ⟨σ', f, ⟨q, hq, a, b⟩ | ⟨c, w, r, cs, a, b, c1, c2, c0, c3, c4, c5, c6⟩⟩ := k_read1 (T := T) 600 0 0 4 1 [] (sI (sI (sI σ 27 3 (nI 4)) 27 4 (nI 1)) 27 5 (nI 0)) σ (Nat.zero_le _) (by omega) (ht.fc f1) (by rw [sI_ne _ _ (by decide), sI_ne _ _ (by decide), sI_same]) (by rw [sI_ne _ _ (by decide), sI_same]) (sI_same _ _ _ _) (fun i c hc => absurd hc (by simp)) (by decide) (by decide) (by decide) (by decide) (by decide) (by decide) f1
  · rw [b]
    exact ⟨σ', f, Or.inl ⟨q, a, rfl⟩⟩
  · have a' : rdT T.length (tk T 0) 0 4 1 [] = (if erB c w r then .inl (c, r, cs) else .inr T.length) := a
    rw [b]
    simp only [ob]
    rw [k_rowIsWhole c1 c2 c0 (by omega) (by omega) (by omega)]
    simp only [ob]
    by_cases e : erB c w r = true
    · rw [if_pos e, if_neg (by decide), c0]
      rw [if_pos e] at a'
      refine ⟨sI σ' 27 3 (nI c), f.wr (Or.inl ⟨rfl, Or.inl rfl⟩), Or.inr ⟨c, r, cs, a', by omega, c5, rfl, sI_same _ _ _ _, ?_, fun i y hy => ?_⟩⟩
      · rw [sI_ne _ _ (by decide)]; exact c2
      · rw [sI_ne _ _ (Or.inl (by decide))]; exact c6 i y hy
    · rw [if_neg e, if_pos rfl]
      rw [if_neg e] at a'
      exact ⟨σ', f, Or.inl ⟨T.length, a', by rw [(ht.fc f).1]⟩⟩
theorem byte_dec : ∀ k, k < 128 → vp_nar .byte ((nI k).toInt8.toInt32) = nI k := by decide +kernel
theorem k_append {σ : vSt} {T : List Int32} (ht : TC σ T) {k : Nat} (hk : k ≤ 127) : (T.length = 40 ∧ f_X5_append (nI k) σ = some (-4, σ)) ∨ (T.length < 40 ∧ ∃ σ', f_X5_append (nI k) σ = some (nI (T.length + 1), σ') ∧ TC σ' (T ++ [nI k]) ∧ (∀ q j, q ≠ 28 → ¬ (q = 27 ∧ j = 2) → gI σ' q j = gI σ q j) ∧ σ'.2 = σ.2) := by
  have h40 := ht.2.1
  unfold f_X5_append
  rw [ht.1, if_neg (by rw [nI_ltI (by omega) (by decide)]; omega)]
  by_cases c : T.length = 40
  · rw [if_neg (by rw [nI_ltI (by omega) (by decide)]; omega)]
    exact Or.inl ⟨c, rfl⟩
  · right
    refine ⟨by omega, ?_⟩
    rw [if_pos ((nI_ltI (by omega) (by decide)).mpr (by omega)), if_pos (ig (by omega) (by omega)), nI_clamp (by omega), byte_dec k (by omega), sI_same, sI_ne σ _ (Or.inl (by decide)), ht.1, nI_add]
    refine ⟨_, rfl, ⟨?_, ?_, ?_⟩, ?_, rfl⟩
    · rw [sI_same, List.length_append]; rfl
    · rw [List.length_append]; show T.length + 1 ≤ 40; omega
    · intro i c' hc
      rw [sI_ne _ _ (Or.inl (by decide))]
      by_cases hi1 : i < T.length
      · rw [List.getElem?_append_left hi1] at hc
        rw [sI_ne _ _ (Or.inr (by omega))]
        exact ht.2.2 i c' hc
      · rw [List.getElem?_append_right (by omega)] at hc
        by_cases hi2 : i = T.length
        · subst hi2
          rw [Nat.sub_self] at hc
          rw [sI_same]
          exact Option.some.inj hc
        · rw [List.getElem?_eq_none (by rw [List.length_singleton]; omega)] at hc
          exact absurd hc (by simp)
    · intro q j h1 h2
      rw [sI_ne _ _ (by omega), sI_ne _ _ (Or.inl h1)]
