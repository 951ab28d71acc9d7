/-! THE REFERENCE'S PLAIN DEDUCTIONS: the whole of them, and what is made -/
def nx (c : Nat) (x : Nat × Nat × Nat) : Option (Nat × Nat × Nat) := if c = 99 then none else some x
noncomputable def dR (w h : Nat) (cnt : Nat → Int32) (mk : Nat → Nat) (r : Nat) : Option (Nat × Nat × Nat) :=
  if r < 2 then nx (lst (gC w h) (dedC w h cnt mk r)) (r, fo mk (gArL w h (lst (gC w h) (dedC w h cnt mk r))), lst (gC w h) (dedC w h cnt mk r))
  else if r < 5 then nx (lst (gK w h) (dedK w h mk r)) (r, fo mk (gToL w h (lst (gK w h) (dedK w h mk r))), lst (gK w h) (dedK w h mk r))
  else nx (lst (gE w h) (ded5 w h cnt mk)) (5, lst (gE w h) (ded5 w h cnt mk), 99)
noncomputable def dF (w h : Nat) (cnt : Nat → Int32) (mk : Nat → Nat) : Nat → Nat → Option (Nat × Nat × Nat)
  | _, 0 => none
  | i, m + 1 => match dR w h cnt mk i with
    | some x => some x
    | none => dF w h cnt mk (i + 1) m
theorem dF_n {w h : Nat} {cnt : Nat → Int32} {mk : Nat → Nat} {i N : Nat} (hi : i < N) (e : dR w h cnt mk i = none) : dF w h cnt mk i (N - i) = dF w h cnt mk (i + 1) (N - (i + 1)) := by
  rw [show N - i = (N - (i + 1)) + 1 by omega]
  show (match dR w h cnt mk i with | some x => some x | none => dF w h cnt mk (i + 1) (N - (i + 1))) = _
  rw [e]
theorem dF_y {w h : Nat} {cnt : Nat → Int32} {mk : Nat → Nat} {i N : Nat} {x : Nat × Nat × Nat} (hi : i < N) (e : dR w h cnt mk i = some x) : dF w h cnt mk i (N - i) = some x := by
  rw [show N - i = (N - (i + 1)) + 1 by omega]
  show (match dR w h cnt mk i with | some x => some x | none => dF w h cnt mk (i + 1) (N - (i + 1))) = _
  rw [e]
noncomputable def dP (w h : Nat) (cnt : Nat → Int32) (mk : Nat → Nat) (N : Nat) : Option (Nat × Nat × Nat) := @ite _ (fitA w h cnt mk ∧ ¬ hasR w h mk) (Classical.propDecidable _) (dF w h cnt mk 0 N) none
theorem dP_y {w h : Nat} {cnt : Nat → Int32} {mk : Nat → Nat} {N : Nat} (hf : fitA w h cnt mk ∧ ¬ hasR w h mk) : dP w h cnt mk N = dF w h cnt mk 0 N := by unfold dP; exact if_pos hf
theorem dP_n {w h : Nat} {cnt : Nat → Int32} {mk : Nat → Nat} {N : Nat} (hf : ¬ (fitA w h cnt mk ∧ ¬ hasR w h mk)) : dP w h cnt mk N = none := by unfold dP; exact if_neg hf
def DO (W : Nat → Nat → Prop) (x : Option (Int32 × vSt)) (τ0 : vSt) (o : Option (Nat × Nat × Nat)) : Prop := ∃ τ', Fr W τ0 τ' ∧ ((o = none ∧ x = some (nI 0, τ')) ∨ ∃ r e p, o = some (r, e, p) ∧ x = some (nI 1, τ') ∧ fq τ' r e p)
theorem m_fp1 {l1 v : Int32} {n : Nat} {τ : vSt} : f_X7_findsPlain_31 l1 (n + 1) (nI 1) v τ = some (nI 1, τ) := by
  rw [f_X7_findsPlain_31.eq_2]
  by_cases a : l1 < v
  · rw [if_pos a]
  · rw [if_neg a]
    by_cases b : nI 6 ≤ v
    · rw [if_pos b]
    · rw [if_neg b, if_neg (by decide)]
theorem m_dR {τ τ0 : vSt} {w h : Nat} {cnt : Nat → Int32} {mk : Nat → Nat} (hg0 : MG τ0 w h cnt mk) (hs : Fr WF τ0 τ) {r : Nat} (hr : r < 6) : DO WF (if nI 2 ≤ nI r then (if nI 5 ≤ nI r then f_X7_byRings τ else f_X7_byCorners (nI r) τ) else f_X7_byCells (nI r) τ) τ0 (dR w h cnt mk r) := by
  have hg := hg0.same hs.1
  unfold dR
  by_cases a : r < 2
  · rw [if_neg (by rw [nI_leI (by decide) (by omega)]; omega), if_pos a, m_byCells hg a]
    by_cases e : lst (gC w h) (dedC w h cnt mk r) = 99
    · rw [if_pos e]; exact ⟨τ, hs, Or.inl ⟨if_pos e, rfl⟩⟩
    · rw [if_neg e]; exact ⟨_, fnd_Fr hs _ _ _, Or.inr ⟨_, _, _, if_neg e, rfl, fq_fnd _ _ _ _⟩⟩
  · rw [if_pos (by rw [nI_leI (by decide) (by omega)]; omega), if_neg a]
    by_cases b : r < 5
    · rw [if_neg (by rw [nI_leI (by decide) (by omega)]; omega), if_pos b, m_byCorners hg (by omega) b]
      by_cases e : lst (gK w h) (dedK w h mk r) = 99
      · rw [if_pos e]; exact ⟨τ, hs, Or.inl ⟨if_pos e, rfl⟩⟩
      · rw [if_neg e]; exact ⟨_, fnd_Fr hs _ _ _, Or.inr ⟨_, _, _, if_neg e, rfl, fq_fnd _ _ _ _⟩⟩
    · rw [if_pos (by rw [nI_leI (by decide) (by omega)]; omega), if_neg b]
      obtain ⟨τ', s, ⟨x, y⟩ | ⟨x, y, z⟩⟩ := m_byRings hg
      · exact ⟨τ', hs.tr s, Or.inl ⟨if_pos x, y⟩⟩
      · exact ⟨τ', hs.tr s, Or.inr ⟨_, _, _, if_neg x, y, z⟩⟩
theorem m_fp_step {l1 : Int32} {n r : Nat} {τ : vSt} (h1 : ¬ l1 < nI r) (hr : r < 6) : f_X7_findsPlain_31 l1 (n + 1) (nI 0) (nI r) τ = (if nI 2 ≤ nI r then (if nI 5 ≤ nI r then f_X7_byRings τ else f_X7_byCorners (nI r) τ) else f_X7_byCells (nI r) τ).bind fun (v, σ) => f_X7_findsPlain_31 l1 n v (nI (r + 1)) σ := by
  rw [f_X7_findsPlain_31.eq_2, if_neg h1, if_neg (by rw [nI_leI (by decide) (by omega)]; omega), if_pos rfl, nI_1 r]
  by_cases a : nI 2 ≤ nI r
  · rw [if_pos a, if_pos a]
    by_cases b : nI 5 ≤ nI r
    · rw [if_pos b, if_pos b]
    · rw [if_neg b, if_neg b]
  · rw [if_neg a, if_neg a]
theorem m_fp2 {τ0 : vSt} {w h : Nat} {cnt : Nat → Int32} {mk : Nat → Nat} (hg0 : MG τ0 w h cnt mk) {l : Nat} (hl : l < 8) : ∀ (n i : Nat) (τ : vSt), i ≤ min (l + 1) 6 → min (l + 1) 6 + 1 < i + n → Fr WF τ0 τ → DO WF (f_X7_findsPlain_31 (nI l) n (nI 0) (nI i) τ) τ0 (dF w h cnt mk i (min (l + 1) 6 - i)) := by
  intro n
  induction n with
  | zero => intro i τ h1 h2; omega
  | succ n ih =>
    intro i τ h1 h2 hs
    by_cases hi : i = min (l + 1) 6
    · rw [f_X7_findsPlain_31.eq_2, hi, Nat.sub_self]
      refine ⟨τ, hs, Or.inl ⟨rfl, ?_⟩⟩
      by_cases a : nI l < nI (min (l + 1) 6)
      · rw [if_pos a]
      · rw [if_neg a]
        rw [nI_ltI (by omega) (by omega)] at a
        rw [if_pos (by rw [nI_leI (by decide) (by omega)]; omega)]
    · rw [m_fp_step (by rw [nI_ltI (by omega) (by omega)]; omega) (by omega)]
      obtain ⟨τ', s, ⟨x, y⟩ | ⟨r, e, p, x, y, z⟩⟩ := m_dR hg0 hs (r := i) (by omega)
      · rw [y, dF_n (by omega) x]
        simp only [ob]
        exact ih (i + 1) τ' (by omega) (by omega) s
      · rw [y, dF_y (by omega) x]
        simp only [ob]
        obtain ⟨m, rfl⟩ : ∃ m, n = m + 1 := ⟨n - 1, by omega⟩
        rw [m_fp1]
        exact ⟨τ', s, Or.inr ⟨r, e, p, rfl, rfl, z⟩⟩
theorem m_findsPlain {τ : vSt} {w h : Nat} {cnt : Nat → Int32} {mk : Nat → Nat} (hg : MG τ w h cnt mk) {l : Nat} (hl : l < 8) : DO WF (f_X7_findsPlain (nI l) τ) τ (dP w h cnt mk (min (l + 1) 6)) := by
  obtain ⟨τ1, e1, s1, k1⟩ := m_fits hg
  have s1' : Fr WF τ τ1 := s1.mono (fun q j z => Or.inl z)
  unfold f_X7_findsPlain
  rw [e1]
  simp only [ob]
  by_cases a : fitA w h cnt mk
  · rw [pI_t a, if_neg (by decide), k1.2.2.2]
    by_cases b : hasR w h mk
    · rw [pI_t b, if_neg (by decide)]
      simp only [ob]
      rw [if_pos trivial, dP_n (fun q => q.2 b)]
      exact ⟨τ1, s1', Or.inl ⟨rfl, rfl⟩⟩
    · rw [pI_f b, if_pos rfl]
      simp only [ob]
      rw [if_neg (by decide), dP_y ⟨a, b⟩]
      obtain ⟨τ', s, ⟨x, y⟩ | ⟨r, e, p, x, y, z⟩⟩ := m_fp2 hg hl 600 0 τ1 (Nat.zero_le _) (by omega) s1'
      · rw [y]; exact ⟨τ', s, Or.inl ⟨x, rfl⟩⟩
      · rw [y]; exact ⟨τ', s, Or.inr ⟨r, e, p, x, rfl, z⟩⟩
  · rw [pI_f a, if_pos rfl]
    simp only [ob]
    rw [if_pos trivial, dP_n (fun q => a q.1)]
    exact ⟨τ1, s1', Or.inl ⟨rfl, rfl⟩⟩
