/-! THE CLASS: settle, copies -/
theorem dF_sn {w h : Nat} {cnt : Nat → Int32} {mk : Nat → Nat} : ∀ (m i : Nat), dF w h cnt mk i (m + 1) = match dF w h cnt mk i m with | some x => some x | none => dR w h cnt mk (i + m)
  | 0, i => by
    show (match dR w h cnt mk i with | some x => some x | none => none) = dR w h cnt mk (i + 0)
    cases dR w h cnt mk i <;> rfl
  | m + 1, i => by
    have ih := dF_sn (w := w) (h := h) (cnt := cnt) (mk := mk) m (i + 1)
    show (match dR w h cnt mk i with | some x => some x | none => dF w h cnt mk (i + 1) (m + 1)) = match (match dR w h cnt mk i with | some x => some x | none => dF w h cnt mk (i + 1) m) with | some x => some x | none => dR w h cnt mk (i + (m + 1))
    cases dR w h cnt mk i with
    | some x => rfl
    | none =>
      show dF w h cnt mk (i + 1) (m + 1) = match dF w h cnt mk (i + 1) m with | some x => some x | none => dR w h cnt mk (i + (m + 1))
      rw [ih, show i + (m + 1) = i + 1 + m by omega]
theorem SY_of {b b2 w h : Nat} {σ σ' : vSt} {cnt : Nat → Int32} {mk : Nat → Nat} (s : SY σ b2 w h cnt mk) (hI : ∀ j, 4 ≤ j → j < 10 → j ≠ 8 → gI σ' b j = gI σ b2 j) (hR : ∀ j, j < 5 → gI σ' (b + 1) j = gI σ (b2 + 1) j) (hL : ∀ j, j = 2 ∨ j = 3 ∨ j = 8 → gL σ' b j = gL σ b2 j) : SY σ' b w h cnt mk := by
  obtain ⟨⟨a1, a2⟩, c, k, r1, r2⟩ := s
  refine ⟨⟨fun e => ?_, fun e => ?_⟩, fun x => ?_, fun x => ?_, fun e => ?_, ?_⟩
  · rw [hL 2 (by decide)]; exact a1 e
  · rw [hL 3 (by decide)]; exact a2 e
  · have := c x
    unfold CK at this ⊢
    rw [hI 4 (by decide) (by decide) (by decide), hI 5 (by decide) (by decide) (by decide), hR 0 (by decide), hR 1 (by decide)]; exact this
  · have := k x
    unfold KK at this ⊢
    rw [hI 6 (by decide) (by decide) (by decide), hI 7 (by decide) (by decide) (by decide), hR 2 (by decide), hR 3 (by decide), hR 4 (by decide)]; exact this
  · rw [hL 8 (by decide)]; exact r1 e
  · rw [hI 9 (by decide) (by decide) (by decide)]; exact r2
theorem fnC_I {b : Nat} {σ : vSt} {r e p q j : Nat} (hq : ¬ (q = b ∧ 10 ≤ j ∧ j < 13)) : gI (fnC b σ r e p) q j = gI σ q j := by
  unfold fnC
  rw [sI_ne _ _ (by omega), sI_ne _ _ (by omega), sI_ne _ _ (by omega)]
theorem fnC_10 {b : Nat} {σ : vSt} {r e p : Nat} : gI (fnC b σ r e p) b 10 = nI r ∧ gI (fnC b σ r e p) b 11 = nI e ∧ gI (fnC b σ r e p) b 12 = tI p := by
  unfold fnC
  refine ⟨?_, ?_, ?_⟩
  · rw [sI_ne _ _ (Or.inr (by decide)), sI_ne _ _ (Or.inr (by decide)), sI_same]
  · rw [sI_ne _ _ (Or.inr (by decide)), sI_same]
  · rw [sI_same]
theorem fnC_SY {b r e p w h : Nat} {σ : vSt} {cnt : Nat → Int32} {mk : Nat → Nat} (s : SY σ b w h cnt mk) : SY (fnC b σ r e p) b w h cnt mk :=
  SY_of s (fun j _ _ _ => fnC_I (by omega)) (fun j _ => fnC_I (by omega)) (fun j _ => rfl)
theorem fnC_FB {b r e p : Nat} {σ : vSt} : FB b 13 σ (fnC b σ r e p) := ⟨fun q j h1 _ => fnC_I (by omega), fun q j _ => rfl, fun j hj => fnC_I (by omega)⟩
theorem k_plain {σ : vSt} {b w h : Nat} {cnt : Nat → Int32} {mk : Nat → Nat} (g : GD σ w h cnt) (s : SY σ b w h cnt mk) {l : Nat} (h4 : 4 ≤ l) (hl : l < 8) : (dP w h cnt mk 6 = none ∧ f_X0_findAtPlace b (nI l) σ = some (nI 0, σ) ∧ f_X0_findClosing b σ = some (nI 0, σ)) ∨ ∃ r e p, dP w h cnt mk 6 = some (r, e, p) ∧ (f_X0_findAtPlace b (nI l) σ = some (nI 1, fnC b σ r e p) ∨ (f_X0_findAtPlace b (nI l) σ = some (nI 0, σ) ∧ f_X0_findClosing b σ = some (nI 1, fnC b σ r e p))) := by
  have hA := k_findAtPlace g s hl
  rw [show min (l + 1) 5 = 5 by omega] at hA
  have hC := k_findClosing g s
  by_cases hf : fitA w h cnt mk ∧ ¬ hasR w h mk
  · rw [dP_y hf] at hA
    rw [dP_y hf, dF_sn 5 0]
    rcases hA with ⟨a1, a2⟩ | ⟨r, e, p, a1, a2⟩
    · rw [a1]
      rcases hC with c | ⟨_, ⟨c1, c2⟩ | ⟨r, e, p, c1, c2⟩⟩
      · exact absurd hf c.1
      · exact Or.inl ⟨c1, a2, c2⟩
      · exact Or.inr ⟨r, e, p, c1, Or.inr ⟨a2, c2⟩⟩
    · rw [a1]
      exact Or.inr ⟨r, e, p, rfl, Or.inl a2⟩
  · rw [dP_n hf] at hA
    rw [dP_n hf]
    rcases hA with ⟨a1, a2⟩ | ⟨r, e, p, a1, a2⟩
    · rcases hC with c | ⟨c, _⟩
      · exact Or.inl ⟨rfl, a2, c.2⟩
      · exact absurd c hf
    · cases a1
theorem k_becomes {r : Nat} (hr : r < 8) : f_X6_becomes (nI r) = some (nI (bec r)) := by
  rcases (show r = 0 ∨ r = 1 ∨ r = 2 ∨ r = 3 ∨ r = 4 ∨ r = 5 ∨ r = 6 ∨ r = 7 by omega) with rfl | rfl | rfl | rfl | rfl | rfl | rfl | rfl <;> rfl
theorem bec_or (r : Nat) : bec r = 1 ∨ bec r = 2 := by
  unfold bec
  split
  · exact Or.inl rfl
  · exact Or.inr rfl
theorem dP_fit {w h : Nat} {cnt : Nat → Int32} {mk : Nat → Nat} {N : Nat} {x : Nat × Nat × Nat} (e : dP w h cnt mk N = some x) : fitA w h cnt mk ∧ ¬ hasR w h mk := by
  apply Classical.byContradiction
  intro q
  rw [dP_n q] at e; cases e
theorem k_settle2 {b w h : Nat} {cnt : Nat → Int32} (hb : 6 ≤ b) : ∀ (n i m : Nat) (mk : Nat → Nat) (σ : vSt), i + opn w h mk ≤ 40 → 40 < i + n → opn w h mk < m → GD σ w h cnt → SY σ b w h cnt mk → ∃ σ', (f_X0_settle_2 b n (nI i) σ = some (.inl σ') ∨ f_X0_settle_2 b n (nI i) σ = some (.inr σ')) ∧ FB b 13 σ σ' ∧ SY σ' b w h cnt (clo w h cnt m mk) := by
  intro n
  induction n with
  | zero => intro i m mk σ h1 h2; omega
  | succ n ih =>
    intro i m mk σ h1 h2 h3 g s
    have hd := g.1.1
    have h40 := gE_40 hd
    obtain ⟨m, rfl⟩ : ∃ m', m = m' + 1 := ⟨m - 1, by omega⟩
    rw [f_X0_settle_2.eq_2]
    by_cases hi : 40 ≤ i
    · rw [if_pos ((nI_leI (by decide) (by omega)).mpr hi)]
      refine ⟨σ, Or.inr rfl, FB.rf, ?_⟩
      have : dP w h cnt mk 6 = none := by
        cases q : dP w h cnt mk 6 with
        | none => rfl
        | some x =>
          obtain ⟨r, e, p⟩ := x
          obtain ⟨_, y1, y2⟩ := dP_ok hd (by decide) q
          have : 0 < opn w h mk := cnP_pos.mpr ⟨e, y1, y2⟩
          omega
      rw [clo_n this]; exact s
    · rw [if_neg (by rw [nI_leI (by decide) (by omega)]; exact hi), nI_1 i]
      rcases k_plain g s (l := 4) (by decide) (by decide) with ⟨a1, a2, a3⟩ | ⟨r, e, p, a1, a2⟩
      · rw [a2]
        simp only [ob]
        rw [if_pos trivial, a3]
        simp only [ob]
        rw [if_pos trivial, clo_n a1]
        exact ⟨σ, Or.inl rfl, FB.rf, s⟩
      · obtain ⟨y0, y1, y2⟩ := dP_ok hd (by decide) a1
        have hfit := dP_fit a1
        obtain ⟨v10, v11, v12⟩ := fnC_10 (b := b) (σ := σ) (r := r) (e := e) (p := p)
        have g1 := g.fb hb (fnC_FB (b := b) (σ := σ) (r := r) (e := e) (p := p))
        have s1 := fnC_SY (r := r) (e := e) (p := p) s
        obtain ⟨σ2, e2, f2, s2⟩ := k_settleEdge hb g1 s1 hfit.2 y1 y2 (bec_or r)
        have ho : opn w h (um mk e (bec r)) < opn w h mk := opn_um y1 y2 (bec_3 r).2
        have fall := fnC_FB.tr (f2.up (show 10 ≤ 13 by decide))
        obtain ⟨σ', e3, f3, s3⟩ := ih (i + 1) m (um mk e (bec r)) σ2 (by omega) (by omega) (by omega) (g1.fb hb f2) s2
        refine ⟨σ', ?_, fall.tr f3, ?_⟩
        · rcases a2 with a2 | ⟨a2, a3⟩
          · rw [a2]
            simp only [ob]
            rw [if_neg (by decide)]
            simp only [ob]
            rw [v10, k_becomes (by omega)]
            simp only [ob]
            rw [v11, e2]
            simp only [ob]
            exact e3
          · rw [a2]
            simp only [ob]
            rw [if_pos trivial, a3]
            simp only [ob]
            rw [if_neg (by decide)]
            simp only [ob]
            rw [v10, k_becomes (by omega)]
            simp only [ob]
            rw [v11, e2]
            simp only [ob]
            exact e3
        · rw [clo_y a1]; exact s3
theorem k_settle {σ : vSt} {b w h : Nat} {cnt : Nat → Int32} {mk : Nat → Nat} (hb : 6 ≤ b) (g : GD σ w h cnt) (s : SY σ b w h cnt mk) : ∃ σ', f_X0_settle b σ = some σ' ∧ FB b 13 σ σ' ∧ SY σ' b w h cnt (clo w h cnt 41 mk) := by
  have ho := opn_le g.1.1 mk
  obtain ⟨σ', e1, f1, s1⟩ := k_settle2 hb 600 0 41 mk σ (by omega) (by decide) (by omega) g s
  refine ⟨σ', ?_, f1, s1⟩
  unfold f_X0_settle
  rcases e1 with e1 | e1 <;> rw [e1] <;> rfl
theorem pI_01 (P : Prop) : pI P = 0 ∨ pI P = 1 := by
  by_cases h : P
  · rw [pI_t h]; exact Or.inr rfl
  · rw [pI_f h]; exact Or.inl rfl
theorem k_copy66 (b b2 : Nat) (hne : b ≠ b2) (σ : vSt) : ∃ σ', f_X0_copyFrom_66 b b2 600 (nI 0) σ = some σ' ∧ CP (b2 + 1) 0 (b + 1) 0 0 5 σ σ' := by
  obtain ⟨σ', e, c⟩ := copy_gen (q := b2 + 1) (b := 0) (q' := b + 1) (b' := 0) (N := 5) (f_X0_copyFrom_66 b b2) (by
    intro n i σ hi
    rw [f_X0_copyFrom_66.eq_2, if_neg (by rw [nI_leI (by decide) (by omega)]; omega), if_pos (ig (by omega) (by omega)), if_pos (ig (by omega) (by omega)), nI_clamp (by omega), nI_1 i, Nat.zero_add]) (by
    intro n σ
    rw [f_X0_copyFrom_66.eq_2, if_pos (Int32.le_refl _)]) (Or.inl (by omega)) 600 0 σ (by decide) (by decide)
  exact ⟨σ', e, c⟩
theorem k_copyFrom {σ : vSt} {b b2 w h : Nat} {cnt : Nat → Int32} {mk : Nat → Nat} (hne : b2 ≠ b) (hne1 : b2 ≠ b + 1) (hne2 : b2 + 1 ≠ b) (s : SY σ b2 w h cnt mk) : ∃ σ', f_X0_copyFrom b b2 σ = some σ' ∧ FB b 10 σ σ' ∧ SY σ' b w h cnt mk := by
  unfold f_X0_copyFrom
  have r1 : ∀ (σ : vSt) (j : Nat) (v : Int32) (j' : Nat), gI (sI σ b j v) b2 j' = gI σ b2 j' := fun σ j v j' => sI_ne _ _ (Or.inl hne)
  have r2 : ∀ (σ : vSt) (j : Nat) (v : Int64) (j' : Nat), gL (sL σ b j v) b2 j' = gL σ b2 j' := fun σ j v j' => by rw [sL_if, if_neg (fun z => hne z.1)]
  simp only [r1, r2, sL_I, sI_L_g]
  have h01 : gI σ b2 9 = 0 ∨ gI σ b2 9 = 1 := by rw [s.2.2.2.2]; exact pI_01 _
  rw [if_pos h01]
  simp only [ob]
  generalize hσ1 : sI (sL (sI (sI (sI (sI (sL (sL σ b 2 (gL σ b2 2)) b 3 (gL σ b2 3)) b 4 (gI σ b2 4)) b 5 (gI σ b2 5)) b 6 (gI σ b2 6)) b 7 (gI σ b2 7)) b 8 (gL σ b2 8)) b 9 (gI σ b2 9) = σ1
  have f1 : FB b 10 σ σ1 := by
    rw [← hσ1]
    exact ((((((FB.rf.wL.wL).wI (Or.inl ⟨rfl, by decide⟩)).wI (Or.inl ⟨rfl, by decide⟩)).wI (Or.inl ⟨rfl, by decide⟩)).wI (Or.inl ⟨rfl, by decide⟩)).wL).wI (Or.inl ⟨rfl, by decide⟩)
  have hI : ∀ j, 4 ≤ j → j < 10 → j ≠ 8 → gI σ1 b j = gI σ b2 j := by
    intro j x1 x2 x3
    rw [← hσ1]
    rcases (show j = 4 ∨ j = 5 ∨ j = 6 ∨ j = 7 ∨ j = 9 by omega) with rfl | rfl | rfl | rfl | rfl <;> simp [sI_if, sL_I]
  have hL : ∀ j, j = 2 ∨ j = 3 ∨ j = 8 → gL σ1 b j = gL σ b2 j := by
    intro j x
    rw [← hσ1]
    rcases x with rfl | rfl | rfl <;> simp [sL_if, sI_L_g]
  obtain ⟨σ2, e2, c2⟩ := k_copy66 b b2 (Ne.symm hne) σ1
  rw [e2]
  simp only [ob]
  have f2 : FB b 10 σ1 σ2 := ⟨fun q j h1 h2 => c2.2.1 q j (fun z => h2 z.1), fun q j _ => by unfold gL; rw [c2.2.2], fun j _ => c2.2.1 b j (by omega)⟩
  refine ⟨σ2, rfl, f1.tr f2, SY_of s (fun j x1 x2 x3 => ?_) (fun j x => ?_) (fun j x => ?_)⟩
  · rw [c2.2.1 b j (by omega), hI j x1 x2 x3]
  · have := c2.1 j (Nat.zero_le _) x
    rw [Nat.zero_add] at this
    rw [this, f1.1 (b2 + 1) j (by omega) (by omega)]
  · rw [show gL σ2 b j = gL σ1 b j by unfold gL; rw [c2.2.2], hL j x]
