/-! THE REFERENCE LOOKS -/
theorem dI_nn (i : Nat) (h : i < 2 ^ 30) : (dI i < nI 0) ↔ i = 0 := by
  cases i with
  | zero => simp [dI]; decide
  | succ i => rw [dI_s, nI_ltI (by omega) (by decide)]; omega
theorem lsF_y {P : Nat → Prop} {i N : Nat} (hi : i < N) (h : P i) : lsF P i (N - i) = i := by
  rw [show N - i = (N - (i + 1)) + 1 by omega, lsF_t h]
theorem lsF_n {P : Nat → Prop} {i N : Nat} (hi : i < N) (h : ¬ P i) : lsF P i (N - i) = lsF P (i + 1) (N - (i + 1)) := by
  rw [show N - i = (N - (i + 1)) + 1 by omega, lsF_f h]
theorem m_looks1 {w h : Nat} {cnt : Nat → Int32} {mk : Nat → Nat} : ∀ (n i : Nat) (τ τ0 : vSt), MG τ0 w h cnt mk → i ≤ gC w h → i < n → Fr WL τ0 τ → gI τ 0 9 = tI (lsF (badC w h cnt mk) i (gC w h - i)) → ∃ τ', f_X7_looks_12 n (dI i) τ = some τ' ∧ Fr WL τ0 τ' ∧ gI τ' 0 9 = tI (lst (gC w h) (badC w h cnt mk)) := by
  intro n
  induction n with
  | zero => intro i τ τ0 hg h1 h2; omega
  | succ n ih =>
    intro i τ τ0 hg0 h1 h2 hs h9
    have hd := hg0.1.2.2
    have hg := hg0.same hs.1
    have h16 := gC_16 hd
    rw [f_X7_looks_12.eq_2]
    cases i with
    | zero =>
      rw [if_pos ((dI_nn 0 (by decide)).mpr rfl)]
      exact ⟨τ, rfl, hs, h9⟩
    | succ i =>
      have hc : i < gC w h := by omega
      rw [if_neg (fun q => absurd ((dI_nn (i + 1) (by omega)).mp q) (by omega)), dI_s, nI_add 2 i, if_pos (ig (by omega) (by omega)), nI_clamp (by omega), hg.2.1 i (by omega)]
      simp only [ob]
      rw [m_aroundWith hg hc (v := 1) (by decide)]
      simp only [ob]
      rw [dI_d]
      have go : ∀ v : Int32, v = tI (lsF (badC w h cnt mk) i (gC w h - i)) → ∃ τ', f_X7_looks_12 n (dI i) (sI τ 0 9 v) = some τ' ∧ Fr WL τ0 τ' ∧ gI τ' 0 9 = tI (lst (gC w h) (badC w h cnt mk)) := fun v hv => ih i _ τ0 hg0 (by omega) (by omega) (hs.upL (by decide)) (by rw [sI_same, hv])
      have hbad : badC w h cnt mk i → nI i = tI (lsF (badC w h cnt mk) i (gC w h - i)) := fun hb => by rw [lsF_y hc hb, tI_n (by omega)]
      have hgood : ¬ badC w h cnt mk i → gI τ 0 9 = tI (lsF (badC w h cnt mk) i (gC w h - i)) := fun hb => by rw [lsF_n hc hb, h9]
      by_cases e1 : cnt i = -1
      · rw [if_pos e1]
        exact go _ (hgood (fun q => q.1 e1))
      · rw [if_neg e1]
        by_cases e2 : cnt i < nI (nAr w h mk i 1)
        · rw [if_pos e2]
          exact go _ (hbad ⟨e1, Or.inl e2⟩)
        · rw [if_neg e2, show nI 0 = nI 0 from rfl, m_aroundWith hg hc (v := 0) (by decide)]
          simp only [ob]
          rw [nI_add]
          by_cases e3 : cnt i ≤ nI (nAr w h mk i 1 + nAr w h mk i 0)
          · rw [if_pos e3]
            exact go _ (hgood (fun q => q.2.elim e2 (fun z => z e3)))
          · rw [if_neg e3]
            exact go _ (hbad ⟨e1, Or.inr e3⟩)
theorem m_looks2 {w h : Nat} {cnt : Nat → Int32} {mk : Nat → Nat} : ∀ (n i : Nat) (τ τ0 : vSt), MG τ0 w h cnt mk → i ≤ gK w h → i < n → Fr WL τ0 τ → gI τ 0 9 = gI τ0 0 9 → gI τ 0 10 = tI (lsF (badK w h mk) i (gK w h - i)) → ∃ τ', f_X7_looks_84 n (dI i) τ = some τ' ∧ Fr WL τ0 τ' ∧ gI τ' 0 9 = gI τ0 0 9 ∧ gI τ' 0 10 = tI (lst (gK w h) (badK w h mk)) := by
  intro n
  induction n with
  | zero => intro i τ τ0 hg h1 h2; omega
  | succ n ih =>
    intro i τ τ0 hg0 h1 h2 hs h9 h10
    have hd := hg0.1.2.2
    have hg := hg0.same hs.1
    have h25 := gK_25 hd
    rw [f_X7_looks_84.eq_2]
    cases i with
    | zero =>
      rw [if_pos ((dI_nn 0 (by decide)).mpr rfl)]
      exact ⟨τ, rfl, hs, h9, h10⟩
    | succ i =>
      have hc : i < gK w h := by omega
      rw [if_neg (fun q => absurd ((dI_nn (i + 1) (by omega)).mp q) (by omega)), dI_s, m_atWith hg hc (v := 1) (by decide)]
      simp only [ob]
      rw [dI_d]
      have hl4 := nTo_le w h mk i 1
      have hl0 := nTo_le w h mk i 0
      have go : ∀ v : Int32, v = tI (lsF (badK w h mk) i (gK w h - i)) → ∃ τ', f_X7_looks_84 n (dI i) (sI τ 0 10 v) = some τ' ∧ Fr WL τ0 τ' ∧ gI τ' 0 9 = gI τ0 0 9 ∧ gI τ' 0 10 = tI (lst (gK w h) (badK w h mk)) := fun v hv => ih i _ τ0 hg0 (by omega) (by omega) (hs.upL (by decide)) (by rw [sI_ne _ _ (by simp), h9]) (by rw [sI_same, hv])
      by_cases e1 : 2 < nTo w h mk i 1
      · rw [if_pos ((nI_ltI (by decide) (by omega)).mpr e1)]
        exact go _ (by rw [lsF_y (P := badK w h mk) hc (Or.inl e1), tI_n (by omega)])
      · rw [if_neg (by rw [nI_ltI (by decide) (by omega)]; exact e1)]
        by_cases e2 : nTo w h mk i 1 = 1
        · rw [if_pos (by rw [e2]), show nI 0 = nI 0 from rfl, m_atWith hg hc (v := 0) (by decide)]
          simp only [ob]
          by_cases e3 : nTo w h mk i 0 = 0
          · rw [if_pos (by rw [e3])]
            exact go _ (by rw [lsF_y (P := badK w h mk) hc (Or.inr ⟨e2, e3⟩), tI_n (by omega)])
          · rw [if_neg (by rw [nI_eq (by omega) (by decide)]; exact e3)]
            exact go _ (by rw [lsF_n (P := badK w h mk) hc (fun q => q.elim e1 (fun z => e3 z.2)), h10])
        · rw [if_neg (by rw [nI_eq (by omega) (by decide)]; exact e2)]
          exact go _ (by rw [lsF_n (P := badK w h mk) hc (fun q => q.elim e1 (fun z => e2 z.1)), h10])
theorem m_looks3 {w h : Nat} {cnt : Nat → Int32} {mk U : Nat → Nat} : ∀ (n i : Nat) (τ τ0 : vSt), MG τ0 w h cnt mk → i ≤ gE w h → i < n → Fr WL τ0 τ → JN τ w h mk U → gI τ 0 9 = gI τ0 0 9 → gI τ 0 10 = gI τ0 0 10 → gI τ 0 11 = tI (lsF (badR w h cnt mk) i (gE w h - i)) → gI τ 0 12 = pI (∃ e, i ≤ e ∧ e < gE w h ∧ rgE w h mk e) → ∃ τ', f_X7_looks_158 (pI (met w h cnt mk)) n (dI i) τ = some τ' ∧ Fr WL τ0 τ' ∧ gI τ' 0 9 = gI τ0 0 9 ∧ gI τ' 0 10 = gI τ0 0 10 ∧ gI τ' 0 11 = tI (lst (gE w h) (badR w h cnt mk)) ∧ gI τ' 0 12 = pI (hasR w h mk) := by
  intro n
  induction n with
  | zero => intro i τ τ0 hg h1 h2; omega
  | succ n ih =>
    intro i τ τ0 hg0 h1 h2 hs hj h9 h10 h11 h12
    have hd := hg0.1.2.2
    have hg := hg0.same hs.1
    have h40 := gE_40 hd
    have h25 := gK_25 hd
    rw [f_X7_looks_158.eq_2]
    cases i with
    | zero =>
      rw [if_pos ((dI_nn 0 (by decide)).mpr rfl)]
      exact ⟨τ, rfl, hs, h9, h10, h11, by rw [h12]; exact pI_c ⟨fun ⟨e, _, b, c⟩ => ⟨e, b, c⟩, fun ⟨e, b, c⟩ => ⟨e, Nat.zero_le _, b, c⟩⟩⟩
    | succ i =>
      have hE : i < gE w h := by omega
      rw [if_neg (fun q => absurd ((dI_nn (i + 1) (by omega)).mp q) (by omega)), dI_s, m_markOf hg (by omega)]
      simp only [ob]
      rw [dI_d]
      have hm3 := hg.2.2.2 i
      have hno : ¬ rgE w h mk i → pI (∃ e, i ≤ e ∧ e < gE w h ∧ rgE w h mk e) = gI τ 0 12 := by
        intro hn
        rw [h12]
        refine pI_c ⟨fun ⟨e, a, b, c⟩ => ⟨e, ?_, b, c⟩, fun ⟨e, a, b, c⟩ => ⟨e, by omega, b, c⟩⟩
        by_cases q : e = i
        · rw [q] at c; exact absurd c hn
        · omega
      have skip : ¬ rgE w h mk i → ∃ τ', f_X7_looks_158 (pI (met w h cnt mk)) n (dI i) τ = some τ' ∧ Fr WL τ0 τ' ∧ gI τ' 0 9 = gI τ0 0 9 ∧ gI τ' 0 10 = gI τ0 0 10 ∧ gI τ' 0 11 = tI (lst (gE w h) (badR w h cnt mk)) ∧ gI τ' 0 12 = pI (hasR w h mk) := fun hn =>
        ih i τ τ0 hg0 (by omega) (by omega) hs hj h9 h10 (by rw [lsF_n hE (fun q => hn q.1), h11]) (hno hn).symm
      by_cases hm : mk i = 1
      · rw [if_pos (by rw [hm])]
        have hp := gEn_lt hd hE (s := 0) (by decide)
        rw [m_end hg.1 hE (s := 0) (by decide)]
        simp only [ob]
        rw [m_top h25 hj.1 hj.2.1.1 hp]
        simp only [ob]
        rw [m_isRing hd hj hp]
        simp only [ob]
        by_cases hr : rgK w h mk (gEn w h i 0)
        · rw [if_neg (fun q => pI_0.mp q hr)]
          have hrg : rgE w h mk i := ⟨hm, hr⟩
          have h12' : nI 1 = pI (∃ e, i ≤ e ∧ e < gE w h ∧ rgE w h mk e) := (pI_t ⟨i, Nat.le_refl _, hE, hrg⟩).symm
          have s12 : Fr WL τ0 (sI τ 0 12 (nI 1)) := hs.upL (by decide)
          have j12 : JN (sI τ 0 12 (nI 1)) w h mk U := hj.up (by decide)
          have go : ∀ v : Int32, v = tI (lsF (badR w h cnt mk) i (gE w h - i)) → ∃ τ', f_X7_looks_158 (pI (met w h cnt mk)) n (dI i) (sI (sI τ 0 12 (nI 1)) 0 11 v) = some τ' ∧ Fr WL τ0 τ' ∧ gI τ' 0 9 = gI τ0 0 9 ∧ gI τ' 0 10 = gI τ0 0 10 ∧ gI τ' 0 11 = tI (lst (gE w h) (badR w h cnt mk)) ∧ gI τ' 0 12 = pI (hasR w h mk) := fun v hv =>
            ih i _ τ0 hg0 (by omega) (by omega) (s12.upL (by decide)) (j12.up (by decide)) (by rw [sI_ne _ _ (by simp), sI_ne _ _ (by simp), h9]) (by rw [sI_ne _ _ (by simp), sI_ne _ _ (by simp), h10]) (by rw [sI_same, hv]) (by rw [sI_ne _ _ (by simp), sI_same, h12'])
          by_cases hmet : met w h cnt mk
          · rw [if_neg (fun q => pI_0.mp q hmet), m_end (hg0.same s12.1).1 hE (s := 0) (by decide)]
            simp only [ob]
            rw [m_top h25 j12.1 j12.2.1.1 hp]
            simp only [ob]
            have ft := top_fix hj.2.1.1 (gEn w h i 0 + 1) _ (by omega) hp
            rw [if_pos (ig (by omega) (by omega)), nI_clamp (by omega)]
            by_cases hf : fullK w h mk (gEn w h i 0)
            · rw [if_pos ((m_full hd j12 hp).mpr hf)]
              exact go _ (by rw [sI_ne _ _ (by simp), h11, lsF_n hE (fun q => q.2.elim (fun z => z hmet) (fun z => z hf))])
            · rw [if_neg (fun q => hf ((m_full hd j12 hp).mp q))]
              exact go _ (by rw [lsF_y (P := badR w h cnt mk) hE ⟨hrg, Or.inr hf⟩, tI_n (by omega)])
          · rw [if_pos (pI_0.mpr hmet)]
            exact go _ (by rw [lsF_y (P := badR w h cnt mk) hE ⟨hrg, Or.inl hmet⟩, tI_n (by omega)])
        · rw [if_pos (pI_0.mpr hr)]
          exact skip (fun q => hr q.2)
      · rw [if_neg (by rw [nI_eq (by omega) (by decide)]; exact hm)]
        exact skip (fun q => hm q.1)

theorem m_looks {τ : vSt} {w h : Nat} {cnt : Nat → Int32} {mk : Nat → Nat} (hg : MG τ w h cnt mk) : ∃ τ', f_X7_looks τ = some τ' ∧ Fr WL τ τ' ∧ LK τ' w h cnt mk := by
  have hd := hg.1.2.2
  have h40 := gE_40 hd
  have h25 := gK_25 hd
  have h16 := gC_16 hd
  unfold f_X7_looks
  have s0 : Fr WL τ (sI τ 0 9 (-1 : Int32)) := Fr.rf.upL (by decide)
  rw [m_cells (hg.same s0.1).1]
  simp only [ob]
  rw [dI_0]
  obtain ⟨τ1, e1, s1, v9⟩ := m_looks1 (w := w) (h := h) (cnt := cnt) (mk := mk) 600 (gC w h) _ τ hg (Nat.le_refl _) (by omega) s0 (by rw [sI_same, Nat.sub_self]; exact tI_99.symm)
  rw [e1]
  simp only [ob]
  have s2 : Fr WL τ (sI τ1 0 10 (-1 : Int32)) := s1.upL (by decide)
  rw [m_corners (hg.same s2.1).1]
  simp only [ob]
  rw [dI_0]
  obtain ⟨τ2, e2, s3, u9, v10⟩ := m_looks2 (w := w) (h := h) (cnt := cnt) (mk := mk) 600 (gK w h) _ (sI τ1 0 10 (-1 : Int32)) (hg.same s2.1) (Nat.le_refl _) (by omega) Fr.rf rfl (by rw [sI_same, Nat.sub_self]; exact tI_99.symm)
  rw [e2]
  simp only [ob]
  have s23 := s2.tr s3
  obtain ⟨τ3, U, e3, s4, j3⟩ := m_joins (hg.same s23.1)
  rw [e3]
  simp only [ob]
  have s5 : Fr WL τ (sI (sI τ3 0 12 (nI 0)) 0 11 (-1 : Int32)) := ((s23.tr (s4.mono (fun _ _ z => Or.inl z))).upL (by decide)).upL (by decide)
  have hg5 := hg.same s5.1
  rw [m_areMet hg5]
  simp only [ob]
  rw [m_edges hg5.1]
  simp only [ob]
  rw [dI_0]
  obtain ⟨τ4, e4, s6, a9, a10, a11, a12⟩ := m_looks3 (w := w) (h := h) (cnt := cnt) (mk := mk) (U := U) 600 (gE w h) _ (sI (sI τ3 0 12 (nI 0)) 0 11 (-1 : Int32)) hg5 (Nat.le_refl _) (by omega) Fr.rf ((j3.up (by decide)).up (by decide)) rfl rfl (by rw [sI_same, Nat.sub_self]; exact tI_99.symm) (by rw [sI_ne _ _ (by simp), sI_same, pI_f (fun ⟨e, a, b, _⟩ => by omega)])
  rw [e4]
  simp only [ob]
  have w9 : ∀ j, 9 ≤ j → ¬ WJ 0 j := fun j hj q => by
    rcases q with q | q | q | q <;> omega
  refine ⟨τ4, rfl, s5.tr s6, ?_, ?_, a11, a12⟩
  · rw [a9, sI_ne _ _ (by simp), sI_ne _ _ (by simp), s4.2.1 0 9 (w9 9 (by decide)), u9, sI_ne _ _ (by simp), v9]
  · rw [a10, sI_ne _ _ (by simp), sI_ne _ _ (by simp), s4.2.1 0 10 (w9 10 (by decide)), v10]
theorem fit_lst {w h : Nat} {cnt : Nat → Int32} {mk : Nat → Nat} (hd : dim w h) : fitA w h cnt mk ↔ lst (gC w h) (badC w h cnt mk) = 99 ∧ lst (gK w h) (badK w h mk) = 99 ∧ lst (gE w h) (badR w h cnt mk) = 99 := by
  have h40 := gE_40 hd
  have h25 := gK_25 hd
  have h16 := gC_16 hd
  rw [lst_99 (by omega), lst_99 (by omega), lst_99 (by omega)]
  rfl
theorem lst_lt {N : Nat} {P : Nat → Prop} (hN : N < 99) : lst N P < 2 ^ 31 := by
  rcases lst_or N P with ⟨i, a, b, c, d⟩ | ⟨a, d⟩ <;> omega
theorem m_fits {τ : vSt} {w h : Nat} {cnt : Nat → Int32} {mk : Nat → Nat} (hg : MG τ w h cnt mk) : ∃ τ', f_X7_fits τ = some (pI (fitA w h cnt mk), τ') ∧ Fr WL τ τ' ∧ LK τ' w h cnt mk := by
  have hd := hg.1.2.2
  have h40 := gE_40 hd
  have h25 := gK_25 hd
  have h16 := gC_16 hd
  obtain ⟨τ', e, s, l⟩ := m_looks hg
  refine ⟨τ', ?_, s, l⟩
  unfold f_X7_fits
  rw [e]
  simp only [ob]
  rw [l.1, l.2.1, l.2.2.1]
  by_cases h1 : lst (gC w h) (badC w h cnt mk) = 99
  · rw [if_pos ((tI_m1 (lst_lt (by omega))).mpr h1)]
    by_cases h2 : lst (gK w h) (badK w h mk) = 99
    · rw [if_pos ((tI_m1 (lst_lt (by omega))).mpr h2)]
      by_cases h3 : lst (gE w h) (badR w h cnt mk) = 99
      · rw [if_pos ((tI_m1 (lst_lt (by omega))).mpr h3), pI_t ((fit_lst hd).mpr ⟨h1, h2, h3⟩)]
      · rw [if_neg (fun q => h3 ((tI_m1 (lst_lt (by omega))).mp q)), pI_f (fun q => h3 ((fit_lst hd).mp q).2.2)]
    · rw [if_neg (fun q => h2 ((tI_m1 (lst_lt (by omega))).mp q)), pI_f (fun q => h2 ((fit_lst hd).mp q).2.1)]
  · rw [if_neg (fun q => h1 ((tI_m1 (lst_lt (by omega))).mp q)), pI_f (fun q => h1 ((fit_lst hd).mp q).1)]
