/-! WHAT DOES NOT FIT -/
noncomputable def lsF (P : Nat → Prop) : Nat → Nat → Nat
  | _, 0 => 99
  | i, m + 1 => @ite _ (P i) (Classical.propDecidable _) i (lsF P (i + 1) m)
noncomputable def lst (N : Nat) (P : Nat → Prop) : Nat := lsF P 0 N
theorem lsF_t {P : Nat → Prop} {i m : Nat} (h : P i) : lsF P i (m + 1) = i := by
  unfold lsF; rw [if_pos h]
theorem lsF_f {P : Nat → Prop} {i m : Nat} (h : ¬ P i) : lsF P i (m + 1) = lsF P (i + 1) m := by
  rw [lsF, if_neg h]
theorem lsF_or (P : Nat → Prop) : ∀ (m i : Nat), (∃ j, i ≤ j ∧ j < i + m ∧ P j ∧ (∀ l, i ≤ l → l < j → ¬ P l) ∧ lsF P i m = j) ∨ ((∀ j, i ≤ j → j < i + m → ¬ P j) ∧ lsF P i m = 99) := by
  intro m
  induction m with
  | zero => intro i; exact Or.inr ⟨fun j h1 h2 => by omega, rfl⟩
  | succ m ih =>
    intro i
    by_cases h : P i
    · exact Or.inl ⟨i, Nat.le_refl _, by omega, h, fun l h1 h2 => by omega, lsF_t h⟩
    · rw [lsF_f h]
      rcases ih (i + 1) with ⟨j, a, b, c, d, e⟩ | ⟨a, b⟩
      · refine Or.inl ⟨j, by omega, by omega, c, fun l h1 h2 => ?_, e⟩
        by_cases hl : l = i
        · rw [hl]; exact h
        · exact d l (by omega) h2
      · refine Or.inr ⟨fun j h1 h2 => ?_, b⟩
        by_cases hl : j = i
        · rw [hl]; exact h
        · exact a j (by omega) (by omega)
theorem lst_or (N : Nat) (P : Nat → Prop) : (∃ j, j < N ∧ P j ∧ (∀ l, l < j → ¬ P l) ∧ lst N P = j) ∨ ((∀ j, j < N → ¬ P j) ∧ lst N P = 99) := by
  rcases lsF_or P N 0 with ⟨j, -, b, c, d, e⟩ | ⟨a, b⟩
  · exact Or.inl ⟨j, by omega, c, fun l h => d l (Nat.zero_le _) h, e⟩
  · exact Or.inr ⟨fun j h => a j (Nat.zero_le _) (by omega), b⟩
theorem lst_is {N : Nat} {P : Nat → Prop} {j : Nat} (hj : j < N) (hP : P j) (hl : ∀ l, l < j → ¬ P l) : lst N P = j := by
  rcases lst_or N P with ⟨i, a, b, c, d⟩ | ⟨a, -⟩
  · rw [d]
    rcases Nat.lt_trichotomy i j with z | z | z
    · exact absurd b (hl i z)
    · exact z
    · exact absurd hP (c j z)
  · exact absurd hP (a j hj)
theorem lst_no {N : Nat} {P : Nat → Prop} (h : ∀ j, j < N → ¬ P j) : lst N P = 99 := by
  rcases lst_or N P with ⟨i, a, b, c, d⟩ | ⟨a, d⟩
  · exact absurd b (h i a)
  · exact d
theorem lst_99 {N : Nat} {P : Nat → Prop} (hN : N < 99) : lst N P = 99 ↔ ∀ j, j < N → ¬ P j := by
  refine ⟨fun e => ?_, lst_no⟩
  rcases lst_or N P with ⟨i, a, b, c, d⟩ | ⟨a, d⟩
  · omega
  · exact a
theorem lst_c {N : Nat} {P Q : Nat → Prop} (h : ∀ j, j < N → (P j ↔ Q j)) : lst N P = lst N Q := by
  rcases lst_or N P with ⟨i, a, b, c, d⟩ | ⟨a, d⟩
  · rw [d]; exact (lst_is a ((h i a).mp b) (fun l hl q => c l hl ((h l (by omega)).mpr q))).symm
  · rw [d]; exact (lst_no (fun j hj q => a j hj ((h j hj).mpr q))).symm
theorem tI_99 : tI 99 = -1 := rfl
theorem tI_m1 {n : Nat} (h : n < 2 ^ 31) : tI n = -1 ↔ n = 99 := by
  unfold tI
  by_cases e : n = 99
  · rw [if_pos e]; simp [e]
  · rw [if_neg e]; simp [e, nI_nem1 h]
theorem tI_n {n : Nat} (h : n ≠ 99) : tI n = nI n := if_neg h
/-- the number behind: i are left -/
def dI (i : Nat) : Int32 := if i = 0 then -1 else nI (i - 1)
theorem dI_s (i : Nat) : dI (i + 1) = nI i := by
  unfold dI; rw [if_neg (by omega)]; rfl
theorem dI_d (i : Nat) : nI i + (-1) = dI i := by
  cases i with
  | zero => decide
  | succ i => rw [dI_s, pk_m1]
theorem dI_0 (i : Nat) : nI i - nI 1 = dI i := by
  cases i with
  | zero => decide
  | succ i => rw [dI_s, pk_sub (by omega)]; rfl
/-! the grid, told -/
def met (w h : Nat) (cnt : Nat → Int32) (mk : Nat → Nat) : Prop := ∀ c, c < gC w h → cnt c = -1 ∨ nI (nAr w h mk c 1) = cnt c
def badC (w h : Nat) (cnt : Nat → Int32) (mk : Nat → Nat) (c : Nat) : Prop := ¬ cnt c = -1 ∧ (cnt c < nI (nAr w h mk c 1) ∨ ¬ cnt c ≤ nI (nAr w h mk c 1 + nAr w h mk c 0))
def badK (w h : Nat) (mk : Nat → Nat) (k : Nat) : Prop := 2 < nTo w h mk k 1 ∨ (nTo w h mk k 1 = 1 ∧ nTo w h mk k 0 = 0)
def rgK (w h : Nat) (mk : Nat → Nat) (k : Nat) : Prop := (∃ e, e < gE w h ∧ mk e = 1 ∧ Cn w h mk (gEn w h e 0) k) ∧ ∀ k', k' < gK w h → Cn w h mk k' k → ¬ lse w h mk k'
def fullK (w h : Nat) (mk : Nat → Nat) (k : Nat) : Prop := ∀ e, e < gE w h → mk e = 1 → Cn w h mk (gEn w h e 0) k
def rgE (w h : Nat) (mk : Nat → Nat) (e : Nat) : Prop := mk e = 1 ∧ rgK w h mk (gEn w h e 0)
def badR (w h : Nat) (cnt : Nat → Int32) (mk : Nat → Nat) (e : Nat) : Prop := rgE w h mk e ∧ (¬ met w h cnt mk ∨ ¬ fullK w h mk (gEn w h e 0))
def hasR (w h : Nat) (mk : Nat → Nat) : Prop := ∃ e, e < gE w h ∧ rgE w h mk e
def fitA (w h : Nat) (cnt : Nat → Int32) (mk : Nat → Nat) : Prop := (∀ c, c < gC w h → ¬ badC w h cnt mk c) ∧ (∀ k, k < gK w h → ¬ badK w h mk k) ∧ ∀ e, e < gE w h → ¬ badR w h cnt mk e
def LK (τ : vSt) (w h : Nat) (cnt : Nat → Int32) (mk : Nat → Nat) : Prop := gI τ 0 9 = tI (lst (gC w h) (badC w h cnt mk)) ∧ gI τ 0 10 = tI (lst (gK w h) (badK w h mk)) ∧ gI τ 0 11 = tI (lst (gE w h) (badR w h cnt mk)) ∧ gI τ 0 12 = pI (hasR w h mk)
theorem JN.same {τ τ' : vSt} {w h : Nat} {mk U : Nat → Nat} (hj : JN τ w h mk U) (h4 : τ'.1 4 = τ.1 4) (h5 : τ'.1 5 = τ.1 5) (h6 : τ'.1 6 = τ.1 6) (h8 : gI τ' 0 8 = gI τ 0 8) : JN τ' w h mk U := by
  obtain ⟨a, b, c, d⟩ := hj
  refine ⟨fun k hk => ?_, b, h8.trans c, fun t ht => ⟨?_, ?_⟩⟩
  · have := a k hk; unfold gI at this ⊢; rw [h4]; exact this
  · have := (d t ht).1; unfold gI at this ⊢; rw [h5]; exact this
  · have := (d t ht).2; unfold gI at this ⊢; rw [h6]; exact this
theorem JN.up {τ : vSt} {w h : Nat} {mk U : Nat → Nat} (hj : JN τ w h mk U) {j : Nat} {v : Int32} (hj8 : j ≠ 8) : JN (sI τ 0 j v) w h mk U :=
  hj.same (sI_row _ _ (by decide)) (sI_row _ _ (by decide)) (sI_row _ _ (by decide)) (sI_ne _ _ (Or.inr (Ne.symm hj8)))
theorem m_isRing {τ : vSt} {w h : Nat} {mk U : Nat → Nat} (hd : dim w h) (hj : JN τ w h mk U) {k : Nat} (hk : k < gK w h) : f_X7_isRing (nI (top U k)) τ = some (pI (rgK w h mk k)) := by
  have h25 := gK_25 hd
  have h40 := gE_40 hd
  have ft := top_fix hj.2.1.1 (k + 1) k (by omega) hk
  obtain ⟨z5, z6⟩ := hj.2.2.2 _ (show top U k < gK w h by omega)
  have hc := cnP_le (gE w h) (fun e => mk e = 1 ∧ top U (gEn w h e 0) = top U k)
  unfold f_X7_isRing
  rw [if_pos (ig (by omega) (by omega)), nI_clamp (by omega), z5]
  have i1 : (∃ e, e < gE w h ∧ mk e = 1 ∧ top U (gEn w h e 0) = top U k) ↔ ∃ e, e < gE w h ∧ mk e = 1 ∧ Cn w h mk (gEn w h e 0) k :=
    ⟨fun ⟨e, a, b, c⟩ => ⟨e, a, b, (hj.2.1.2 _ _ (gEn_lt hd a (by decide)) hk).mp c⟩, fun ⟨e, a, b, c⟩ => ⟨e, a, b, (hj.2.1.2 _ _ (gEn_lt hd a (by decide)) hk).mpr c⟩⟩
  by_cases h0 : ∃ e, e < gE w h ∧ mk e = 1 ∧ top U (gEn w h e 0) = top U k
  · have hpos := cnP_pos.mpr h0
    rw [if_neg (by rw [nI_leI (by omega) (by decide)]; omega), if_pos (ig (by omega) (by omega)), z6]
    have i2 : (∃ k', k' < gK w h ∧ top U k' = top U k ∧ lse w h mk k') ↔ ¬ rgK w h mk k := by
      constructor
      · rintro ⟨k', a, b, c⟩ hr
        exact hr.2 k' a ((hj.2.1.2 _ _ a hk).mp b) c
      · intro hr
        apply Classical.byContradiction
        intro hn
        exact hr ⟨i1.mp h0, fun k' a b c => hn ⟨k', a, (hj.2.1.2 _ _ a hk).mpr b, c⟩⟩
    by_cases hr : rgK w h mk k
    · rw [if_pos (pI_0.mpr (fun q => (i2.mp q) hr)), pI_t hr]
    · rw [if_neg (fun q => pI_0.mp q (i2.mpr hr)), pI_f hr]
  · have hz : cnP (gE w h) (fun e => mk e = 1 ∧ top U (gEn w h e 0) = top U k) = 0 := by
      rcases Nat.eq_zero_or_pos (cnP (gE w h) (fun e => mk e = 1 ∧ top U (gEn w h e 0) = top U k)) with q | q
      · exact q
      · exact absurd (cnP_pos.mp q) h0
    rw [hz, if_pos (Int32.le_refl _), pI_f (fun hr => h0 (i1.mpr hr.1))]
theorem m_full {τ : vSt} {w h : Nat} {mk U : Nat → Nat} (hd : dim w h) (hj : JN τ w h mk U) {k : Nat} (hk : k < gK w h) : gI τ 5 (top U k) = gI τ 0 8 ↔ fullK w h mk k := by
  have h40 := gE_40 hd
  have ft := top_fix hj.2.1.1 (k + 1) k (by omega) hk
  have a1 := cnP_le (gE w h) (fun e => mk e = 1 ∧ top U (gEn w h e 0) = top U k)
  have a2 := cnP_le (gE w h) (fun e => mk e = 1)
  rw [(hj.2.2.2 _ (show top U k < gK w h by omega)).1, hj.2.2.1, nI_eq (by omega) (by omega), cnP_eq (fun e _ q => q.1)]
  exact ⟨fun q e he hm => (hj.2.1.2 _ _ (gEn_lt hd he (by decide)) hk).mp (q e he hm).2, fun q e he hm => ⟨hm, (hj.2.1.2 _ _ (gEn_lt hd he (by decide)) hk).mpr (q e he hm)⟩⟩
theorem m_areMet {τ : vSt} {w h : Nat} {cnt : Nat → Int32} {mk : Nat → Nat} (hg : MG τ w h cnt mk) : f_X7_areMet τ = some (pI (met w h cnt mk)) := by
  have hd := hg.1.2.2
  have h16 := gC_16 hd
  have key : ∀ (n i : Nat), i ≤ gC w h → gC w h < i + n → f_X7_areMet_4 τ n (pI (∀ c, c < i → cnt c = -1 ∨ nI (nAr w h mk c 1) = cnt c)) (nI i) = some (pI (met w h cnt mk)) := by
    intro n
    induction n with
    | zero => intro i h1 h2; omega
    | succ n ih =>
      intro i h1 h2
      rw [f_X7_areMet_4.eq_2, m_cells hg.1]
      simp only [ob]
      by_cases hi : gC w h ≤ i
      · rw [if_pos ((nI_leI (by omega) (by omega)).mpr hi)]
        have : i = gC w h := by omega
        subst this
        rfl
      · have hiC : i < gC w h := by omega
        rw [if_neg (by rw [nI_leI (by omega) (by omega)]; exact hi)]
        by_cases hp : ∀ c, c < i → cnt c = -1 ∨ nI (nAr w h mk c 1) = cnt c
        · rw [if_neg (fun q => pI_0.mp q hp), nI_add 2 i, if_pos (ig (by omega) (by omega)), nI_clamp (by omega), hg.2.1 i (by omega)]
          have hl4 := nAr_le w h mk i 1
          by_cases hc : cnt i = -1
          · rw [if_pos hc, nI_1 i, ← ih (i + 1) (by omega) (by omega)]
            congr 1
            rw [pI_t (fun c hc2 => ?_)]
            rcases Nat.lt_or_ge c i with z | z
            · exact hp c z
            · left; rw [show c = i by omega]; exact hc
          · rw [if_neg hc, m_aroundWith hg hiC (v := 1) (by decide)]
            simp only [ob]
            rw [if_pos (ig (by omega) (by omega))]
            by_cases hq : nI (nAr w h mk i 1) = cnt i
            · rw [if_pos hq, nI_1 i, ← ih (i + 1) (by omega) (by omega)]
              congr 1
              rw [pI_t (fun c hc2 => ?_)]
              rcases Nat.lt_or_ge c i with z | z
              · exact hp c z
              · right; rw [show c = i by omega]; exact hq
            · rw [if_neg hq, nI_1 i, ← ih (i + 1) (by omega) (by omega)]
              congr 1
              rw [pI_f (fun q => ?_)]
              rcases q i (by omega) with z | z
              · exact hc z
              · exact hq z
        · rw [if_pos (pI_0.mpr hp), pI_f hp, pI_f (fun q => hp (fun c hc => q c (by omega)))]
  unfold f_X7_areMet
  have h0 := key 600 0 (Nat.zero_le _) (by omega)
  rw [pI_t (fun c hc => absurd hc (Nat.not_lt_zero c))] at h0
  rw [h0]
  rfl
