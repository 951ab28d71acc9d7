/-! THE REFERENCE'S NEXT DEDUCTION -/
def tv (r : Nat) : Nat := if r = 6 then 1 else 2
def ded6 (w h : Nat) (cnt : Nat → Int32) (mk : Nat → Nat) (r e : Nat) : Prop := mk e = 0 ∧ fl w h cnt mk e (tv r)
noncomputable def dT (w h : Nat) (cnt : Nat → Int32) (mk : Nat → Nat) (r : Nat) : Option (Nat × Nat × Nat) := nx (lst (gE w h) (ded6 w h cnt mk r)) (r, lst (gE w h) (ded6 w h cnt mk r), 99)
theorem m_bt1 {w h : Nat} {cnt : Nat → Int32} {mk : Nat → Nat} {r : Nat} (hr : r = 6 ∨ r = 7) : ∀ (n i : Nat) (τ τ0 : vSt), MG τ0 w h cnt mk → i ≤ gE w h → gE w h < i + n → Fr WB τ0 τ → ∃ τ', Fr WB τ0 τ' ∧ ((lsF (ded6 w h cnt mk r) i (gE w h - i) = 99 ∧ f_X7_byTrials_2 (nI r) n (nI i) τ = some (.inr τ')) ∨ (lsF (ded6 w h cnt mk r) i (gE w h - i) ≠ 99 ∧ f_X7_byTrials_2 (nI r) n (nI i) τ = some (.inl (nI 1, τ')) ∧ fq τ' r (lsF (ded6 w h cnt mk r) i (gE w h - i)) 99)) := by
  intro n
  induction n with
  | zero => intro i τ τ0 hg h1 h2; omega
  | succ n ih =>
    intro i τ τ0 hg0 h1 h2 hs
    have hg := hg0.same hs.1
    have hd := hg.1.2.2
    have h40 := gE_40 hd
    rw [f_X7_byTrials_2.eq_2, m_edges hg.1]
    simp only [ob]
    by_cases hi : gE w h ≤ i
    · rw [if_pos ((nI_leI (by omega) (by omega)).mpr hi), show gE w h - i = 0 by omega]
      exact ⟨τ, hs, Or.inl ⟨rfl, rfl⟩⟩
    · have hc : i < gE w h := by omega
      rw [if_neg (by rw [nI_leI (by omega) (by omega)]; exact hi), m_markOf hg (by omega)]
      simp only [ob]
      by_cases e0 : mk i = 0
      · rw [if_pos (by rw [e0])]
        have ht : ((if nI r = nI 6 then some (nI 1) else some (nI 2)) : Option Int32) = some (nI (tv r)) := by
          rcases hr with rfl | rfl <;> rfl
        have hb : ((if nI r = nI 6 then some (nI 2) else some (nI 1)) : Option Int32) = some (nI (bec r)) := by
          rcases hr with rfl | rfl <;> rfl
        have htv : tv r < 3 := by unfold tv; split <;> decide
        rw [ht]
        simp only [ob]
        obtain ⟨τ1, e1, s1⟩ := m_fails hg hc htv
        rw [e1]
        simp only [ob]
        by_cases e2 : fl w h cnt mk i (tv r)
        · rw [pI_t e2, if_neg (by decide), hb]
          simp only [ob]
          rw [lsF_y (P := ded6 w h cnt mk r) hc ⟨e0, e2⟩]
          refine ⟨fnd τ1 r i 99, ?_, Or.inr ⟨by omega, ?_, fq_fnd _ _ _ _⟩⟩
          · exact (hs.tr s1).tr ((fnd_Fr Fr.rf r i 99).mono (fun _ _ q => Or.inl q))
          · rfl
        · rw [pI_f e2, if_pos rfl, nI_1 i, lsF_n hc (fun q => e2 q.2)]
          exact ih (i + 1) τ1 τ0 hg0 (by omega) (by omega) (hs.tr s1)
      · rw [if_neg (by rw [nI_eq (by have := hg.2.2.2 i; omega) (by decide)]; exact e0), nI_1 i, lsF_n hc (fun q => e0 q.1)]
        exact ih (i + 1) τ τ0 hg0 (by omega) (by omega) hs
theorem m_byTrials {τ τ0 : vSt} {w h : Nat} {cnt : Nat → Int32} {mk : Nat → Nat} (hg0 : MG τ0 w h cnt mk) (hs : Fr WB τ0 τ) {r : Nat} (hr : r = 6 ∨ r = 7) : DO WB (f_X7_byTrials (nI r) τ) τ0 (dT w h cnt mk r) := by
  have h40 := gE_40 hg0.1.2.2
  unfold f_X7_byTrials dT
  obtain ⟨τ', s, ⟨a, b⟩ | ⟨a, b, c⟩⟩ := m_bt1 (cnt := cnt) (mk := mk) hr 600 0 τ τ0 hg0 (Nat.zero_le _) (by omega) hs
  · rw [b]; exact ⟨τ', s, Or.inl ⟨if_pos a, rfl⟩⟩
  · rw [b]; exact ⟨τ', s, Or.inr ⟨_, _, _, if_neg a, rfl, c⟩⟩
noncomputable def dN (w h : Nat) (cnt : Nat → Int32) (mk : Nat → Nat) (l : Nat) : Option (Nat × Nat × Nat) := match dP w h cnt mk (min (l + 1) 6) with
  | some x => some x
  | none => if l < 6 then none else @ite _ (fitA w h cnt mk ∧ ¬ hasR w h mk) (Classical.propDecidable _) (match dT w h cnt mk 6 with
    | some x => some x
    | none => if l = 7 then dT w h cnt mk 7 else none) none
theorem dN_y {w h : Nat} {cnt : Nat → Int32} {mk : Nat → Nat} {l : Nat} {x : Nat × Nat × Nat} (e : dP w h cnt mk (min (l + 1) 6) = some x) : dN w h cnt mk l = some x := by unfold dN; rw [e]
theorem dN_l {w h : Nat} {cnt : Nat → Int32} {mk : Nat → Nat} {l : Nat} (e : dP w h cnt mk (min (l + 1) 6) = none) (hl : l < 6) : dN w h cnt mk l = none := by unfold dN; rw [e]; exact if_pos hl
theorem dN_n {w h : Nat} {cnt : Nat → Int32} {mk : Nat → Nat} {l : Nat} (e : dP w h cnt mk (min (l + 1) 6) = none) (hf : ¬ (fitA w h cnt mk ∧ ¬ hasR w h mk)) : dN w h cnt mk l = none := by
  unfold dN; rw [e]
  by_cases hl : l < 6
  · exact if_pos hl
  · exact (if_neg hl).trans (if_neg hf)
theorem dN_6 {w h : Nat} {cnt : Nat → Int32} {mk : Nat → Nat} {l : Nat} {x : Nat × Nat × Nat} (e : dP w h cnt mk (min (l + 1) 6) = none) (hl : ¬ l < 6) (hf : fitA w h cnt mk ∧ ¬ hasR w h mk) (e6 : dT w h cnt mk 6 = some x) : dN w h cnt mk l = some x := by
  unfold dN; rw [e]; simp only [if_neg hl, if_pos hf, e6]
theorem dN_7 {w h : Nat} {cnt : Nat → Int32} {mk : Nat → Nat} {l : Nat} (e : dP w h cnt mk (min (l + 1) 6) = none) (hl : ¬ l < 6) (hf : fitA w h cnt mk ∧ ¬ hasR w h mk) (e6 : dT w h cnt mk 6 = none) : dN w h cnt mk l = if l = 7 then dT w h cnt mk 7 else none := by
  unfold dN; rw [e]; simp only [if_neg hl, if_pos hf, e6]
theorem m_findsNext {τ : vSt} {w h : Nat} {cnt : Nat → Int32} {mk : Nat → Nat} (hg : MG τ w h cnt mk) {l : Nat} (hl : l < 8) : DO WB (f_X7_findsNext (nI l) τ) τ (dN w h cnt mk l) := by
  unfold f_X7_findsNext
  obtain ⟨τ1, s1, ⟨x1, y1⟩ | ⟨r, e, p, x1, y1, z1⟩⟩ := m_findsPlain hg hl
  · have s1' : Fr WB τ τ1 := s1.mono (fun _ _ q => Or.inl q)
    have hg1 := hg.same s1.1
    rw [y1]
    simp only [ob]
    rw [if_pos trivial]
    by_cases hl6 : l < 6
    · rw [if_pos ((nI_ltI (by omega) (by decide)).mpr hl6)]
      exact ⟨τ1, s1', Or.inl ⟨dN_l x1 hl6, rfl⟩⟩
    · rw [if_neg (by rw [nI_ltI (by omega) (by decide)]; exact hl6)]
      obtain ⟨τ2, e2, s2, k2⟩ := m_fits hg1
      have s2' : Fr WB τ τ2 := s1'.tr (s2.mono (fun _ _ q => Or.inl (Or.inl q)))
      rw [e2]
      simp only [ob]
      by_cases a : fitA w h cnt mk
      · rw [pI_t a, if_neg (by decide), k2.2.2.2]
        by_cases b : hasR w h mk
        · rw [pI_t b, if_neg (by decide)]
          exact ⟨τ2, s2', Or.inl ⟨dN_n x1 (fun q => q.2 b), rfl⟩⟩
        · rw [pI_f b, if_pos rfl]
          obtain ⟨τ3, s3, ⟨x3, y3⟩ | ⟨r, e, p, x3, y3, z3⟩⟩ := m_byTrials hg s2' (Or.inl rfl)
          · rw [y3]
            simp only [ob]
            rw [if_pos trivial]
            by_cases hl7 : l = 7
            · rw [if_pos (by rw [hl7])]
              obtain ⟨τ4, s4, ⟨x4, y4⟩ | ⟨r, e, p, x4, y4, z4⟩⟩ := m_byTrials hg s3 (Or.inr rfl)
              · rw [y4]
                exact ⟨τ4, s4, Or.inl ⟨by rw [dN_7 x1 hl6 ⟨a, b⟩ x3, if_pos hl7, x4], rfl⟩⟩
              · rw [y4]
                exact ⟨τ4, s4, Or.inr ⟨r, e, p, by rw [dN_7 x1 hl6 ⟨a, b⟩ x3, if_pos hl7, x4], rfl, z4⟩⟩
            · rw [if_neg (by rw [nI_eq (by omega) (by decide)]; exact hl7)]
              exact ⟨τ3, s3, Or.inl ⟨by rw [dN_7 x1 hl6 ⟨a, b⟩ x3, if_neg hl7], rfl⟩⟩
          · rw [y3]
            exact ⟨τ3, s3, Or.inr ⟨r, e, p, dN_6 x1 hl6 ⟨a, b⟩ x3, rfl, z3⟩⟩
      · rw [pI_f a, if_pos rfl]
        exact ⟨τ2, s2', Or.inl ⟨dN_n x1 (fun q => a q.1), rfl⟩⟩
  · rw [y1]
    exact ⟨τ1, s1.mono (fun _ _ q => Or.inl q), Or.inr ⟨r, e, p, dN_y x1, rfl, z1⟩⟩
theorem dT_ok {w h : Nat} {cnt : Nat → Int32} {mk : Nat → Nat} {r r' e p : Nat} (x : dT w h cnt mk r = some (r', e, p)) : r' = r ∧ e < gE w h ∧ mk e = 0 := by
  unfold dT at x
  obtain ⟨n, y⟩ := nx_some x
  obtain ⟨hl, hk⟩ := lst_sat n
  obtain ⟨y1, y2⟩ := Prod.mk.inj y
  obtain ⟨y3, _⟩ := Prod.mk.inj y2
  rw [← y3]
  exact ⟨y1.symm, hl, hk.1⟩
theorem dN_ok {w h : Nat} {cnt : Nat → Int32} {mk : Nat → Nat} (hd : dim w h) {l r e p : Nat} (x : dN w h cnt mk l = some (r, e, p)) : r < 8 ∧ e < gE w h ∧ mk e = 0 := by
  cases q : dP w h cnt mk (min (l + 1) 6) with
  | some y =>
    rw [dN_y q] at x
    rw [Option.some.inj x] at q
    have := dP_ok hd (by omega) q
    exact ⟨by omega, this.2⟩
  | none =>
    by_cases hf : fitA w h cnt mk ∧ ¬ hasR w h mk
    · by_cases hl : l < 6
      · rw [dN_l q hl] at x; exact absurd x (by simp)
      · cases q6 : dT w h cnt mk 6 with
        | some y =>
          rw [dN_6 q hl hf q6] at x
          rw [Option.some.inj x] at q6
          have := dT_ok q6
          exact ⟨by omega, this.2⟩
        | none =>
          rw [dN_7 q hl hf q6] at x
          split at x
          · have := dT_ok x
            exact ⟨by omega, this.2⟩
          · exact absurd x (by simp)
    · rw [dN_n q hf] at x; exact absurd x (by simp)
