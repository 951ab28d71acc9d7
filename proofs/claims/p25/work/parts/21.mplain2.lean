/-! THE REFERENCE'S PLAIN DEDUCTIONS: corners and rings -/
def um (mk : Nat → Nat) (e v : Nat) : Nat → Nat := fun x => if x = e then v else mk x
def ded5 (w h : Nat) (cnt : Nat → Int32) (mk : Nat → Nat) (e : Nat) : Prop := mk e = 0 ∧ Cn w h mk (gEn w h e 0) (gEn w h e 1) ∧ (¬ met w h cnt (um mk e 1) ∨ ¬ fullK w h mk (gEn w h e 0))
theorem m_byCorners {τ : vSt} {w h : Nat} {cnt : Nat → Int32} {mk : Nat → Nat} (hg : MG τ w h cnt mk) {r : Nat} (hr2 : 2 ≤ r) (hr : r < 5) : f_X7_byCorners (nI r) τ = if lst (gK w h) (dedK w h mk r) = 99 then some (nI 0, τ) else some (nI 1, fnd τ r (fo mk (gToL w h (lst (gK w h) (dedK w h mk r)))) (lst (gK w h) (dedK w h mk r))) := by
  have h25 := gK_25 hg.1.2.2
  have key : ∀ (n i : Nat), i ≤ gK w h → gK w h < i + n → f_X7_byCorners_2 (nI r) τ n (nI i) = if lsF (dedK w h mk r) i (gK w h - i) = 99 then some (.inr ()) else some (.inl (nI 1, fnd τ r (fo mk (gToL w h (lsF (dedK w h mk r) i (gK w h - i)))) (lsF (dedK w h mk r) i (gK w h - i)))) := by
    intro n
    induction n with
    | zero => intro i h1 h2; omega
    | succ n ih =>
      intro i h1 h2
      rw [f_X7_byCorners_2.eq_2, m_corners hg.1]
      simp only [ob]
      by_cases hi : gK w h ≤ i
      · rw [if_pos ((nI_leI (by omega) (by omega)).mpr hi), show gK w h - i = 0 by omega, show lsF (dedK w h mk r) i 0 = 99 from rfl, if_pos rfl]
      · have hc : i < gK w h := by omega
        have l1 := nTo_le w h mk i 1
        have l0 := nTo_le w h mk i 0
        rw [if_neg (by rw [nI_leI (by omega) (by omega)]; exact hi), m_atWith hg hc (v := 0) (by decide)]
        simp only [ob]
        rw [m_atWith hg hc (v := 1) (by decide)]
        simp only [ob]
        have hx : ((if nI r = nI 2 then (if nI (nTo w h mk i 1) = nI 2 then (if nI (nTo w h mk i 0) ≤ nI 0 then some (nI 0) else some (nI 1)) else some (nI 0)) else (if nI (nTo w h mk i 0) = nI 1 then (if nI (nTo w h mk i 1) = nI r - nI 3 then some (nI 1) else some (nI 0)) else some (nI 0))) : Option Int32) = some (pI (dedK w h mk r i)) := by
          unfold dedK
          by_cases e : r = 2
          · rw [if_pos (by rw [e])]
            simp only [if_pos e]
            by_cases a1 : nTo w h mk i 1 = 2
            · rw [if_pos (by rw [a1])]
              by_cases a2 : nTo w h mk i 0 ≤ 0
              · rw [if_pos ((nI_leI (by omega) (by decide)).mpr a2), pI_f (fun q => by have := q.2; omega)]
              · rw [if_neg (by rw [nI_leI (by omega) (by decide)]; exact a2), pI_t ⟨a1, by omega⟩]
            · rw [if_neg (by rw [nI_eq (by omega) (by decide)]; exact a1), pI_f (fun q => a1 q.1)]
          · rw [if_neg (by rw [nI_eq (by omega) (by decide)]; exact e)]
            simp only [if_neg e]
            have hs : nI r - nI 3 = nI (r - 3) := by
              rcases (show r = 3 ∨ r = 4 by omega) with rfl | rfl <;> rfl
            rw [hs]
            by_cases a1 : nTo w h mk i 0 = 1
            · rw [if_pos (by rw [a1])]
              by_cases a2 : nTo w h mk i 1 = r - 3
              · rw [if_pos (by rw [a2]), pI_t ⟨a1, by omega⟩]
              · rw [if_neg (by rw [nI_eq (by omega) (by omega)]; exact a2), pI_f (fun q => by have := q.2; omega)]
            · rw [if_neg (by rw [nI_eq (by omega) (by decide)]; exact a1), pI_f (fun q => a1 q.1)]
        rw [hx]
        simp only [ob]
        by_cases e2 : dedK w h mk r i
        · have ho : 0 < nTo w h mk i 0 := by
            unfold dedK at e2
            split at e2 <;> omega
          rw [pI_t e2, if_neg (by decide), m_openAt hg hc ho]
          simp only [ob]
          have hb : ((if nI r = nI 4 then some (nI 1) else some (nI 2)) : Option Int32) = some (nI (bec r)) := by
            rcases (show r = 2 ∨ r = 3 ∨ r = 4 by omega) with rfl | rfl | rfl <;> rfl
          rw [hb]
          simp only [ob]
          rw [lsF_y (P := dedK w h mk r) hc e2, if_neg (by omega)]
          have ht : nI i = tI i := (tI_n (by omega)).symm
          conv => lhs; rw [ht]
          rw [m_finds]
          simp only [ob]
        · rw [pI_f e2, if_pos rfl, nI_1 i, ih (i + 1) (by omega) (by omega), lsF_n hc e2]
  unfold f_X7_byCorners
  rw [key 600 0 (Nat.zero_le _) (by omega)]
  show (if lst (gK w h) (dedK w h mk r) = 99 then _ else _ : Option _).bind _ = _
  by_cases e : lst (gK w h) (dedK w h mk r) = 99
  · rw [if_pos e, if_pos e]; simp only [ob]
  · rw [if_neg e, if_neg e]; simp only [ob]; rfl
theorem um_e (mk : Nat → Nat) (e v : Nat) : um mk e v e = v := if_pos rfl
theorem um_n {mk : Nat → Nat} {e v x : Nat} (hx : x ≠ e) : um mk e v x = mk x := if_neg hx
theorem MG.um {τ : vSt} {w h : Nat} {cnt : Nat → Int32} {mk : Nat → Nat} (hg : MG τ w h cnt mk) {e v : Nat} (hv : v < 3) : MG (sI τ 1 (18 + e) (nI v)) w h cnt (um mk e v) := by
  obtain ⟨⟨a, b, c⟩, d, f, g⟩ := hg
  refine ⟨⟨?_, ?_, c⟩, ?_, ?_, ?_⟩
  · rw [sI_ne _ _ (by omega)]; exact a
  · rw [sI_ne _ _ (by omega)]; exact b
  · intro k hk; rw [sI_ne _ _ (by omega)]; exact d k hk
  · intro x hx
    by_cases hxe : x = e
    · subst hxe; rw [sI_same, um_e]
    · rw [sI_ne _ _ (by omega), um_n hxe]; exact f x hx
  · intro x
    by_cases hxe : x = e
    · subst hxe; rw [um_e]; exact hv
    · rw [um_n hxe]; exact g x
theorem JN.row {τ : vSt} {w h : Nat} {mk U : Nat → Nat} (hj : JN τ w h mk U) {j : Nat} {v : Int32} : JN (sI τ 1 j v) w h mk U :=
  hj.same (sI_row _ _ (by decide)) (sI_row _ _ (by decide)) (sI_row _ _ (by decide)) (sI_ne _ _ (by simp))
theorem gE_clamp {w h e : Nat} (hd : dim w h) (he : e < gE w h) : (nI 18 + nI e).toNatClampNeg = 18 + e ∧ (0 ≤ (nI 18 + nI e).toInt ∧ (nI 18 + nI e).toInt < 66) := by
  have h40 := gE_40 hd
  rw [nI_add]
  exact ⟨nI_clamp (by omega), ig (by omega) (by omega)⟩
def fq (τ : vSt) (r e p : Nat) : Prop := gI τ 0 13 = nI r ∧ gI τ 0 14 = nI e ∧ gI τ 0 15 = nI (bec r) ∧ gI τ 0 16 = tI p
theorem fq_fnd (τ : vSt) (r e p : Nat) : fq (fnd τ r e p) r e p := ⟨rfl, rfl, rfl, rfl⟩
theorem fnd_Fr {τ τ' : vSt} (x : Fr WF τ τ') (r e p : Nat) : Fr WF τ (fnd τ' r e p) := (((x.upF (by decide)).upF (by decide)).upF (by decide)).upF (by decide)
theorem top_ltK {U : Nat → Nat} {K k : Nat} (hd : dn U K) (hk : k < K) : top U k < K := Nat.lt_of_le_of_lt (top_fix hd (k + 1) k (Nat.lt_succ_self k) hk).2 hk
theorem m_rings1 {w h : Nat} {cnt : Nat → Int32} {mk U : Nat → Nat} : ∀ (n i : Nat) (τ τ0 : vSt), MG τ0 w h cnt mk → i ≤ gE w h → gE w h < i + n → Fr WJ τ0 τ → JN τ w h mk U → ∃ τ', Fr WF τ0 τ' ∧ ((lsF (ded5 w h cnt mk) i (gE w h - i) = 99 ∧ f_X7_byRings_6 n (nI i) τ = some (.inr τ')) ∨ (lsF (ded5 w h cnt mk) i (gE w h - i) ≠ 99 ∧ f_X7_byRings_6 n (nI i) τ = some (.inl (nI 1, τ')) ∧ fq τ' 5 (lsF (ded5 w h cnt mk) i (gE w h - i)) 99)) := by
  intro n
  induction n with
  | zero => intro i τ τ0 hg h1 h2; omega
  | succ n ih =>
    intro i τ τ0 hg0 h1 h2 hs hj
    have hg := hg0.same hs.1
    have hd := hg.1.2.2
    have h40 := gE_40 hd
    have h25 := gK_25 hd
    have hW : Fr WF τ0 τ := hs.mono (fun q j z => Or.inl (Or.inl z))
    rw [f_X7_byRings_6.eq_2, m_edges hg.1]
    simp only [ob]
    by_cases hi : gE w h ≤ i
    · rw [if_pos ((nI_leI (by omega) (by omega)).mpr hi), show gE w h - i = 0 by omega]
      exact ⟨τ, hW, Or.inl ⟨rfl, rfl⟩⟩
    · have hc : i < gE w h := by omega
      rw [if_neg (by rw [nI_leI (by omega) (by omega)]; exact hi), m_markOf hg (by omega)]
      simp only [ob]
      by_cases e0 : mk i = 0
      · have k0 := gEn_lt hd hc (s := 0) (by decide)
        have k1 := gEn_lt hd hc (s := 1) (by decide)
        rw [if_pos (by rw [e0]), m_end hg.1 hc (s := 0) (by decide)]
        simp only [ob]
        rw [m_top h25 hj.1 hj.2.1.1 k0]
        simp only [ob]
        rw [m_end hg.1 hc (s := 1) (by decide)]
        simp only [ob]
        rw [m_top h25 hj.1 hj.2.1.1 k1]
        simp only [ob]
        have hq : nI (top U (gEn w h i 0)) = nI (top U (gEn w h i 1)) ↔ Cn w h mk (gEn w h i 0) (gEn w h i 1) := by
          rw [nI_eq (by have := top_ltK hj.2.1.1 k0; omega) (by have := top_ltK hj.2.1.1 k1; omega)]
          exact hj.2.1.2 _ _ k0 k1
        by_cases e1 : Cn w h mk (gEn w h i 0) (gEn w h i 1)
        · obtain ⟨hcl, hgd⟩ := gE_clamp hd hc
          rw [if_pos (hq.mpr e1), if_pos hgd, hcl]
          have hA : MG (sI τ 1 (18 + i) (nI 1)) w h cnt (um mk i 1) := hg.um (by decide)
          have hB1 : ∀ j, gI (sI (sI τ 1 (18 + i) (nI 1)) 1 (18 + i) (nI 0)) 1 j = gI τ 1 j := by
            intro j
            by_cases hji : j = 18 + i
            · subst hji; rw [sI_same, hg.2.2.1 i (by omega), e0]
            · rw [sI_ne _ _ (by omega), sI_ne _ _ (by omega)]
          have hBr : Fr WJ τ0 (sI (sI τ 1 (18 + i) (nI 1)) 1 (18 + i) (nI 0)) := by
            refine hs.tr ⟨hB1, fun q j _ => ?_, rfl⟩
            by_cases hq1 : q = 1
            · subst hq1; exact hB1 j
            · rw [sI_ne _ _ (Or.inl hq1), sI_ne _ _ (Or.inl hq1)]
          have hBj : JN (sI (sI τ 1 (18 + i) (nI 1)) 1 (18 + i) (nI 0)) w h mk U := hj.row.row
          have hBF : Fr WF τ0 (sI (sI τ 1 (18 + i) (nI 1)) 1 (18 + i) (nI 0)) := hBr.mono (fun q j z => Or.inl (Or.inl z))
          have hgB := hg0.same hBr.1
          rw [m_areMet hA]
          simp only [ob]
          rw [if_pos hgd]
          by_cases e2 : met w h cnt (um mk i 1)
          · rw [pI_t e2, if_neg (by decide), m_end hgB.1 hc (s := 0) (by decide)]
            simp only [ob]
            rw [m_top h25 hBj.1 hBj.2.1.1 k0]
            simp only [ob]
            have ht := top_ltK hj.2.1.1 k0
            rw [if_pos (ig (by omega) (by omega)), nI_clamp (by omega)]
            by_cases e3 : fullK w h mk (gEn w h i 0)
            · rw [if_pos ((m_full hd hBj k0).mpr e3), nI_1 i, lsF_n hc (fun q => q.2.2.elim (fun z => z e2) (fun z => z e3))]
              exact ih (i + 1) _ τ0 hg0 (by omega) (by omega) hBr hBj
            · rw [if_neg (fun q => e3 ((m_full hd hBj k0).mp q)), lsF_y (P := ded5 w h cnt mk) hc ⟨e0, e1, Or.inr e3⟩]
              exact ⟨_, fnd_Fr hBF 5 i 99, Or.inr ⟨by omega, rfl, fq_fnd _ _ _ _⟩⟩
          · rw [pI_f e2, if_pos rfl, lsF_y (P := ded5 w h cnt mk) hc ⟨e0, e1, Or.inl e2⟩]
            exact ⟨_, fnd_Fr hBF 5 i 99, Or.inr ⟨by omega, rfl, fq_fnd _ _ _ _⟩⟩
        · rw [if_neg (fun q => e1 (hq.mp q)), nI_1 i, lsF_n hc (fun q => e1 q.2.1)]
          exact ih (i + 1) τ τ0 hg0 (by omega) (by omega) hs hj
      · rw [if_neg (by rw [nI_eq (by have := hg.2.2.2 i; omega) (by decide)]; exact e0), nI_1 i, lsF_n hc (fun q => e0 q.1)]
        exact ih (i + 1) τ τ0 hg0 (by omega) (by omega) hs hj
theorem m_byRings {τ : vSt} {w h : Nat} {cnt : Nat → Int32} {mk : Nat → Nat} (hg : MG τ w h cnt mk) : ∃ τ', Fr WF τ τ' ∧ ((lst (gE w h) (ded5 w h cnt mk) = 99 ∧ f_X7_byRings τ = some (nI 0, τ')) ∨ (lst (gE w h) (ded5 w h cnt mk) ≠ 99 ∧ f_X7_byRings τ = some (nI 1, τ') ∧ fq τ' 5 (lst (gE w h) (ded5 w h cnt mk)) 99)) := by
  have h40 := gE_40 hg.1.2.2
  obtain ⟨τ1, U, e1, s1, j1⟩ := m_joins hg
  unfold f_X7_byRings
  rw [e1]
  simp only [ob]
  obtain ⟨τ', s, x⟩ := m_rings1 (cnt := cnt) 600 0 τ1 τ hg (Nat.zero_le _) (by omega) s1 j1
  refine ⟨τ', s, ?_⟩
  rcases x with ⟨a, b⟩ | ⟨a, b, c⟩
  · left; rw [b]; exact ⟨a, rfl⟩
  · right; rw [b]; exact ⟨a, rfl, c⟩
