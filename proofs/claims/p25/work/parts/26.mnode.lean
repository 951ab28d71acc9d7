/-! THE REFERENCE'S SEARCH: one node -/
theorem nI_mul (a b : Nat) : nI a * nI b = nI (a * b) := (Int32.ofNat_mul a b).symm
def WS (q j : Nat) : Prop := WB q j ∨ q = 9 ∨ q = 9 ∨ q = 11 ∨ (q = 0 ∧ 26 ≤ j ∧ j ≤ 28)
def WN (q j : Nat) : Prop := WF q j ∨ q = 11 ∨ (q = 0 ∧ j = 27)
noncomputable def fop (w h : Nat) (mk : Nat → Nat) : Nat := lst (gE w h) (fun e => mk e = 0)
noncomputable def ndS (w h : Nat) (cnt : Nat → Int32) (c : Nat → Nat) : Nat := iv (fitA w h cnt c ∧ hasR w h c)
noncomputable def ndV (w h : Nat) (cnt : Nat → Int32) (c : Nat → Nat) : Nat := @ite _ (fitA w h cnt c ∧ ¬ hasR w h c) (Classical.propDecidable _) (fop w h c) 99
theorem m_node90 {τ : vSt} {w h : Nat} {cnt : Nat → Int32} {mk : Nat → Nat} (hg : MG τ w h cnt mk) : ∀ (n i : Nat), i ≤ gE w h → gE w h < i + n → f_X7_node_90 τ n (nI i) = some (nI (if lsF (fun e => mk e = 0) i (gE w h - i) = 99 then gE w h else lsF (fun e => mk e = 0) i (gE w h - i))) := by
  intro n
  have h40 := gE_40 hg.1.2.2
  induction n with
  | zero => intro i h1 h2; omega
  | succ n ih =>
    intro i h1 h2
    rw [f_X7_node_90.eq_2, m_edges hg.1]
    simp only [ob]
    by_cases hi : gE w h ≤ i
    · rw [if_pos ((nI_leI (by omega) (by omega)).mpr hi), show gE w h - i = 0 by omega, show i = gE w h by omega]
      rfl
    · have hc : i < gE w h := by omega
      rw [if_neg (by rw [nI_leI (by omega) (by omega)]; exact hi), m_markOf hg (by omega)]
      simp only [ob]
      by_cases e0 : mk i = 0
      · rw [if_pos (by rw [e0]), lsF_y (P := fun e => mk e = 0) hc e0, if_neg (by omega)]
      · rw [if_neg (by rw [nI_eq (by have := hg.2.2.2 i; omega) (by decide)]; exact e0), nI_1 i, lsF_n (P := fun e => mk e = 0) hc e0]
        exact ih (i + 1) (by omega) (by omega)
theorem m_node33 {c : Nat → Nat} : ∀ (n i : Nat) (τ : vSt), i ≤ 40 → 40 < i + n → (∀ e, e < 40 → gI τ 1 (18 + e) = nI (c e)) → (∀ e, c e < 3) → ∃ τ', f_X7_node_33 n (nI i) τ = some τ' ∧ (∀ q j, ¬ (q = 11) → gI τ' q j = gI τ q j) ∧ τ'.2 = τ.2 ∧ (gI τ 0 27 = nI 0 → ∀ j, j < 40 → gI τ' 11 j = if j < i then gI τ 11 j else nI (if c j = 1 then 1 else 0)) ∧ (¬ gI τ 0 27 = nI 0 → τ' = τ) := by
  intro n
  induction n with
  | zero => intro i τ h1 h2; omega
  | succ n ih =>
    intro i τ h1 h2 hc hc3
    rw [f_X7_node_33.eq_2]
    by_cases hi : i = 40
    · rw [hi, if_pos (by decide)]
      exact ⟨τ, rfl, fun _ _ _ => rfl, rfl, fun _ j hj => by rw [if_pos hj], fun _ => rfl⟩
    · rw [if_neg (by rw [nI_leI (by decide) (by omega)]; omega)]
      by_cases a : gI τ 0 27 = nI 0
      · have hgo : ∀ v : Nat, v = (if c i = 1 then 1 else 0) → ∃ τ', f_X7_node_33 n (nI (i + 1)) (sI τ 11 i (nI v)) = some τ' ∧ (∀ q j, ¬ (q = 11) → gI τ' q j = gI τ q j) ∧ τ'.2 = τ.2 ∧ (gI τ 0 27 = nI 0 → ∀ j, j < 40 → gI τ' 11 j = if j < i then gI τ 11 j else nI (if c j = 1 then 1 else 0)) ∧ (¬ gI τ 0 27 = nI 0 → τ' = τ) := by
          intro v hv
          obtain ⟨τ', e1, e2, e3, e4, _⟩ := ih (i + 1) (sI τ 11 i (nI v)) (by omega) (by omega) (fun e he => by rw [sI_ne _ _ (by simp)]; exact hc e he) hc3
          refine ⟨τ', e1, fun q j hq => by rw [e2 q j hq, sI_ne _ _ (Or.inl hq)], e3, fun _ j hj => ?_, fun b => absurd a b⟩
          rw [e4 (by rw [sI_ne _ _ (by simp)]; exact a) j hj]
          by_cases hj1 : j < i
          · rw [if_pos (by omega), if_pos hj1, sI_ne _ _ (by omega)]
          · by_cases hj2 : j = i
            · rw [if_pos (by omega), if_neg hj1, hj2, sI_same, hv]
            · rw [if_neg (by omega), if_neg hj1]
        rw [if_pos a, if_pos (g18 (by omega)).2, (g18 (by omega)).1, hc i (by omega)]
        by_cases b : c i = 1
        · rw [if_pos (by rw [b]), if_pos (g40 (by omega)).2, (g40 (by omega)).1, nI_1 i]
          exact hgo 1 (by rw [if_pos b])
        · rw [if_neg (by rw [nI_eq (by have := hc3 i; omega) (by decide)]; exact b), if_pos (g40 (by omega)).2, (g40 (by omega)).1, nI_1 i]
          exact hgo 0 (by rw [if_neg b])
      · rw [if_neg a]
        exact ⟨τ, rfl, fun _ _ _ => rfl, rfl, fun b => absurd b a, fun _ => rfl⟩
theorem m_node {τ : vSt} {w h : Nat} {cnt : Nat → Int32} {mk : Nat → Nat} (hg : MG τ w h cnt mk) : ∃ τ', f_X7_node τ = some (tI (ndV w h cnt (clo w h cnt 41 mk)), τ') ∧ MG τ' w h cnt (clo w h cnt 41 mk) ∧ Fm WN τ τ' ∧ gI τ' 0 27 = gI τ 0 27 + nI (ndS w h cnt (clo w h cnt 41 mk)) ∧ (ndS w h cnt (clo w h cnt 41 mk) = 0 ∨ ¬ gI τ 0 27 = nI 0 → ∀ j, gI τ' 11 j = gI τ 11 j) ∧ (ndS w h cnt (clo w h cnt 41 mk) = 1 → gI τ 0 27 = nI 0 → ∀ j, j < 40 → gI τ' 11 j = nI (if clo w h cnt 41 mk j = 1 then 1 else 0)) := by
  have hd := hg.1.2.2
  have h40 := gE_40 hd
  obtain ⟨τ1, e1, hg1, s1⟩ := m_clo (w := w) (h := h) (cnt := cnt) f_X7_node_0 (fun n σ => f_X7_node_0.eq_2 σ n) 600 41 mk τ τ hg (by have := opn_le hd mk; omega) (by have := opn_le hd mk; omega) Fm.rf
  generalize clo w h cnt 41 mk = c at hg1 ⊢
  obtain ⟨τ2, e2, s2, k2⟩ := m_fits hg1
  have hg2 := hg1.same s2.1
  have s12 : Fm WF τ τ2 := s1.tr (s2.fm (fun _ _ q => Or.inl q))
  have f27 : gI τ2 0 27 = gI τ 0 27 := s12.2.1 0 27 (by decide) (fun q => by rcases q with ((a | a | a | a) | a) | a <;> omega)
  have f11 : ∀ j, gI τ2 11 j = gI τ 11 j := fun j => s12.2.1 11 j (by decide) (fun q => by have := WF1 q; omega)
  have z0 : nI 0 = 0 := rfl
  unfold f_X7_node
  rw [e1]
  simp only [ob]
  rw [e2]
  simp only [ob]
  have hno : ndS w h cnt c = 0 → ∀ v : Int32, v = tI (ndV w h cnt c) → ∃ τ', some (v, τ2) = some (tI (ndV w h cnt c), τ') ∧ MG τ' w h cnt c ∧ Fm WN τ τ' ∧ gI τ' 0 27 = gI τ 0 27 + nI (ndS w h cnt c) ∧ (ndS w h cnt c = 0 ∨ ¬ gI τ 0 27 = nI 0 → ∀ j, gI τ' 11 j = gI τ 11 j) ∧ (ndS w h cnt c = 1 → gI τ 0 27 = nI 0 → ∀ j, j < 40 → gI τ' 11 j = nI (if c j = 1 then 1 else 0)) := by
    intro hS v hv
    refine ⟨τ2, by rw [hv], hg2, s12.mono (fun _ _ q => Or.inl q), ?_, fun _ => f11, fun hq => by omega⟩
    rw [hS, f27, z0, Int32.add_zero]
  by_cases a : fitA w h cnt c
  · rw [pI_t a, if_neg (by decide), k2.2.2.2]
    by_cases b : hasR w h c
    · rw [pI_t b, if_neg (by decide)]
      obtain ⟨τ3, e3, p1, p2, p3, p4⟩ := m_node33 (c := c) 600 0 τ2 (by decide) (by decide) hg2.2.2.1 hg2.2.2.2
      rw [e3]
      simp only [ob]
      have hS : ndS w h cnt c = 1 := iv_t ⟨a, b⟩
      have hV : ndV w h cnt c = 99 := if_neg (fun q => q.2 b)
      rw [hS, hV]
      refine ⟨_, rfl, (hg2.same (fun j => p1 1 j (by decide))).same (fun j => by rw [sI_ne _ _ (by simp)]), ?_, ?_, ?_, ?_⟩
      · have s3 : Fm WN τ2 τ3 := ⟨fun j _ => p1 1 j (by decide), fun q j _ hw => p1 q j (fun x => hw (Or.inr (Or.inl x))), p2⟩
        exact ((s12.mono (fun _ _ q => Or.inl q)).tr s3).wr (Or.inr (Or.inr ⟨rfl, rfl⟩)) (by decide)
      · rw [sI_same, p1 0 27 (by decide), f27]
      · intro q j
        rcases q with q | q
        · exact absurd q (by decide)
        · rw [sI_ne _ _ (by simp), p4 (by rw [f27]; exact q), f11]
      · intro _ q j hj
        rw [sI_ne _ _ (by simp), p3 (by rw [f27]; exact q) j hj, if_neg (Nat.not_lt_zero j)]
    · rw [pI_f b, if_pos rfl, m_node90 hg2 600 0 (Nat.zero_le _) (by omega)]
      simp only [ob]
      rw [m_edges hg2.1]
      simp only [ob]
      have hS : ndS w h cnt c = 0 := iv_f (fun q => b q.2)
      have hV : ndV w h cnt c = fop w h c := if_pos ⟨a, b⟩
      show ∃ τ', (if nI (gE w h) ≤ nI (if fop w h c = 99 then gE w h else fop w h c) then some (-1, τ2) else some (nI (if fop w h c = 99 then gE w h else fop w h c), τ2)) = _ ∧ _
      by_cases e : fop w h c = 99
      · rw [if_pos e, if_pos ((nI_leI (by omega) (by omega)).mpr (Nat.le_refl _))]
        exact hno hS _ (by rw [hV, e, tI_99])
      · have hl : fop w h c < gE w h := (lst_sat e).1
        rw [if_neg e, if_neg (by rw [nI_leI (by omega) (by omega)]; omega)]
        exact hno hS _ (by rw [hV, tI_n e])
  · rw [pI_f a, if_pos rfl]
    have hS : ndS w h cnt c = 0 := iv_f (fun q => a q.1)
    have hV : ndV w h cnt c = 99 := if_neg (fun q => a q.1)
    exact hno hS _ (by rw [hV, tI_99])
