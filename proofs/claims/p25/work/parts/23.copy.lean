/-! COPYING LOOPS -/
def CP (q b q' b' i N : Nat) (σ σ' : vSt) : Prop := (∀ j, i ≤ j → j < N → gI σ' q' (b' + j) = gI σ q (b + j)) ∧ (∀ q'' j, ¬ (q'' = q' ∧ b' + i ≤ j ∧ j < b' + N) → gI σ' q'' j = gI σ q'' j) ∧ σ'.2 = σ.2
theorem copy_gen {q b q' b' N : Nat} (F : Nat → Int32 → vSt → Option vSt) (hst : ∀ n i σ, i < N → F (n + 1) (nI i) σ = F n (nI (i + 1)) (sI σ q' (b' + i) (gI σ q (b + i)))) (hen : ∀ n σ, F (n + 1) (nI N) σ = some σ) (hno : q ≠ q' ∨ b' ≤ b) : ∀ (n i : Nat) (σ : vSt), i ≤ N → N < i + n → ∃ σ', F n (nI i) σ = some σ' ∧ CP q b q' b' i N σ σ' := by
  intro n
  induction n with
  | zero => intro i σ h1 h2; omega
  | succ n ih =>
    intro i σ h1 h2
    by_cases hi : i = N
    · rw [hi, hen]
      exact ⟨σ, rfl, fun j a c => by omega, fun _ _ _ => rfl, rfl⟩
    · rw [hst n i σ (by omega)]
      obtain ⟨σ', e, x, y, z⟩ := ih (i + 1) (sI σ q' (b' + i) (gI σ q (b + i))) (by omega) (by omega)
      refine ⟨σ', e, ?_, ?_, z⟩
      · intro j a c
        by_cases hj : j = i
        · rw [hj, y q' (b' + i) (fun w => by omega), sI_same]
        · rw [x j (by omega) c, sI_ne _ _ (by omega)]
      · intro q'' j hn
        rw [y q'' j (fun w => hn ⟨w.1, by omega, w.2.2⟩), sI_ne]
        rcases Nat.decEq q'' q' with a | a
        · exact Or.inl a
        · exact Or.inr (fun w => hn ⟨a, by omega, by omega⟩)
/-- frames that let the marks change -/
def Fm (W : Nat → Nat → Prop) (τ τ' : vSt) : Prop := (∀ j, j < 18 ∨ 58 ≤ j → gI τ' 1 j = gI τ 1 j) ∧ (∀ q j, q ≠ 1 → ¬ W q j → gI τ' q j = gI τ q j) ∧ τ'.2 = τ.2
theorem Fm.rf {W : Nat → Nat → Prop} {τ : vSt} : Fm W τ τ := ⟨fun _ _ => rfl, fun _ _ _ _ => rfl, rfl⟩
theorem Fm.tr {W : Nat → Nat → Prop} {a b c : vSt} (x : Fm W a b) (y : Fm W b c) : Fm W a c := ⟨fun j hj => (y.1 j hj).trans (x.1 j hj), fun q j hq hw => (y.2.1 q j hq hw).trans (x.2.1 q j hq hw), y.2.2.trans x.2.2⟩
theorem Fr.fm {W W' : Nat → Nat → Prop} {τ τ' : vSt} (x : Fr W τ τ') (hW : ∀ q j, W q j → W' q j) : Fm W' τ τ' := ⟨fun j _ => x.1 j, fun q j _ hw => x.2.1 q j (fun z => hw (hW q j z)), x.2.2⟩
theorem Fm.wm {W : Nat → Nat → Prop} {τ τ' : vSt} (x : Fm W τ τ') {e : Nat} {v : Int32} (he : e < 40) : Fm W τ (sI τ' 1 (18 + e) v) := ⟨fun j hj => by rw [sI_ne _ _ (by omega)]; exact x.1 j hj, fun q j hq hw => by rw [sI_ne _ _ (Or.inl hq)]; exact x.2.1 q j hq hw, x.2.2⟩
theorem Fm.wr {W : Nat → Nat → Prop} {τ τ' : vSt} (x : Fm W τ τ') {q j : Nat} {v : Int32} (hW : W q j) (h1 : q ≠ 1) : Fm W τ (sI τ' q j v) := by
  refine ⟨fun k hk => by rw [sI_ne _ _ (Or.inl (fun a => h1 a.symm))]; exact x.1 k hk, fun r k hr hw => ?_, x.2.2⟩
  rw [sI_ne]
  · exact x.2.1 r k hr hw
  · rcases Nat.decEq r q with a | a
    · exact Or.inl a
    · exact Or.inr (fun c => hw (by rw [a, c]; exact hW))
theorem Fm.fr {W : Nat → Nat → Prop} {τ τ' : vSt} (x : Fm W τ τ') (h : ∀ j, j < 40 → gI τ' 1 (18 + j) = gI τ 1 (18 + j)) : Fr W τ τ' := by
  have h1 : ∀ j, gI τ' 1 j = gI τ 1 j := by
    intro j
    by_cases a : j < 18 ∨ 58 ≤ j
    · exact x.1 j a
    · have := h (j - 18) (by omega)
      rw [show 18 + (j - 18) = j by omega] at this
      exact this
  refine ⟨h1, fun q j hw => ?_, x.2.2⟩
  by_cases hq : q = 1
  · rw [hq]; exact h1 j
  · exact x.2.1 q j hq hw
theorem Fm.mono {W W' : Nat → Nat → Prop} {τ τ' : vSt} (x : Fm W τ τ') (hW : ∀ q j, W q j → W' q j) : Fm W' τ τ' := ⟨x.1, fun q j hq hw => x.2.1 q j hq (fun z => hw (hW q j z)), x.2.2⟩
theorem g18 {i : Nat} (hi : i < 40) : (nI 18 + nI i).toNatClampNeg = 18 + i ∧ (0 ≤ (nI 18 + nI i).toInt ∧ (nI 18 + nI i).toInt < 66) := by
  rw [nI_add]
  exact ⟨nI_clamp (by omega), ig (by omega) (by omega)⟩
theorem g40 {i : Nat} (hi : i < 40) : (nI i).toNatClampNeg = i ∧ (0 ≤ (nI i).toInt ∧ (nI i).toInt < 40) := ⟨nI_clamp (by omega), ig (by omega) (by omega)⟩
theorem m_save7 (τ : vSt) : ∃ τ', f_X7_fails_2 600 (nI 0) τ = some τ' ∧ CP 1 18 7 0 0 40 τ τ' := by
  refine copy_gen f_X7_fails_2 ?_ ?_ (by decide) 600 0 τ (by decide) (by decide)
  · intro n i σ hi
    rw [f_X7_fails_2.eq_2, if_neg (by rw [nI_leI (by decide) (by omega)]; omega), if_pos (g18 hi).2, if_pos (g40 hi).2, (g18 hi).1, (g40 hi).1, nI_1 i, Nat.zero_add]
  · intro n σ; rw [f_X7_fails_2.eq_2, if_pos (by decide)]
theorem m_save10 (τ : vSt) : ∃ τ', f_X7_searches_2 600 (nI 0) τ = some τ' ∧ CP 1 18 10 0 0 40 τ τ' := by
  refine copy_gen f_X7_searches_2 ?_ ?_ (by decide) 600 0 τ (by decide) (by decide)
  · intro n i σ hi
    rw [f_X7_searches_2.eq_2, if_neg (by rw [nI_leI (by decide) (by omega)]; omega), if_pos (g18 hi).2, if_pos (g40 hi).2, (g18 hi).1, (g40 hi).1, nI_1 i, Nat.zero_add]
  · intro n σ; rw [f_X7_searches_2.eq_2, if_pos (by decide)]
theorem m_back7 (τ : vSt) : ∃ τ', f_X7_fails_70 600 (nI 0) τ = some τ' ∧ CP 7 0 1 18 0 40 τ τ' := by
  refine copy_gen f_X7_fails_70 ?_ ?_ (by decide) 600 0 τ (by decide) (by decide)
  · intro n i σ hi
    rw [f_X7_fails_70.eq_2, if_neg (by rw [nI_leI (by decide) (by omega)]; omega), if_pos (g40 hi).2, if_pos (g18 hi).2, (g18 hi).1, (g40 hi).1, nI_1 i, Nat.zero_add]
  · intro n σ; rw [f_X7_fails_70.eq_2, if_pos (by decide)]
theorem m_back10 (τ : vSt) : ∃ τ', f_X7_searches_164 600 (nI 0) τ = some τ' ∧ CP 10 0 1 18 0 40 τ τ' := by
  refine copy_gen f_X7_searches_164 ?_ ?_ (by decide) 600 0 τ (by decide) (by decide)
  · intro n i σ hi
    rw [f_X7_searches_164.eq_2, if_neg (by rw [nI_leI (by decide) (by omega)]; omega), if_pos (g40 hi).2, if_pos (g18 hi).2, (g18 hi).1, (g40 hi).1, nI_1 i, Nat.zero_add]
  · intro n σ; rw [f_X7_searches_164.eq_2, if_pos (by decide)]
theorem m_backG (τ : vSt) : ∃ τ', f_X7_grade_102 600 (nI 0) τ = some τ' ∧ CP 10 0 1 18 0 40 τ τ' := by
  refine copy_gen f_X7_grade_102 ?_ ?_ (by decide) 600 0 τ (by decide) (by decide)
  · intro n i σ hi
    rw [f_X7_grade_102.eq_2, if_neg (by rw [nI_leI (by decide) (by omega)]; omega), if_pos (g40 hi).2, if_pos (g18 hi).2, (g18 hi).1, (g40 hi).1, nI_1 i, Nat.zero_add]
  · intro n σ; rw [f_X7_grade_102.eq_2, if_pos (by decide)]
theorem m_keepS (τ : vSt) : ∃ τ', f_X7_keeps_11x8 600 (nI 0) τ = some τ' ∧ CP 2 66 2 0 0 462 τ τ' := by
  refine copy_gen f_X7_keeps_11x8 ?_ ?_ (by decide) 600 0 τ (by decide) (by decide)
  · intro n i σ hi
    rw [f_X7_keeps_11x8.eq_2, if_neg (by rw [nI_leI (by decide) (by omega)]; omega), nI_add, if_pos (ig (by omega) (by omega)), if_pos (ig (by omega) (by omega)), nI_clamp (by omega), nI_clamp (by omega), nI_1 i, Nat.zero_add, Nat.add_comm 66 i]
  · intro n σ; rw [f_X7_keeps_11x8.eq_2, if_pos (by decide)]
