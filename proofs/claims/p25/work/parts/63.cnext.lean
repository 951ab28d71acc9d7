/-! THE CLASS: the next deduction -/
def FG (WI WL : Nat → Nat → Prop) (σ σ' : vSt) : Prop := (∀ q j, ¬ WI q j → gI σ' q j = gI σ q j) ∧ ∀ q j, ¬ WL q j → gL σ' q j = gL σ q j
theorem FG.rf {WI WL : Nat → Nat → Prop} {σ : vSt} : FG WI WL σ σ := ⟨fun _ _ _ => rfl, fun _ _ _ => rfl⟩
theorem FG.tr {WI WL : Nat → Nat → Prop} {x y z : vSt} (f : FG WI WL x y) (g : FG WI WL y z) : FG WI WL x z := ⟨fun q j h => (g.1 q j h).trans (f.1 q j h), fun q j h => (g.2 q j h).trans (f.2 q j h)⟩
theorem FG.mono {WI WL WI' WL' : Nat → Nat → Prop} {σ σ' : vSt} (f : FG WI WL σ σ') (h1 : ∀ q j, WI q j → WI' q j) (h2 : ∀ q j, WL q j → WL' q j) : FG WI' WL' σ σ' := ⟨fun q j h => f.1 q j (fun z => h (h1 q j z)), fun q j h => f.2 q j (fun z => h (h2 q j z))⟩
theorem FG.wI {WI WL : Nat → Nat → Prop} {σ σ' : vSt} (f : FG WI WL σ σ') {q j : Nat} {v : Int32} (h : WI q j) : FG WI WL σ (sI σ' q j v) := by
  refine ⟨fun q' j' hw => ?_, f.2⟩
  rw [sI_if, if_neg (fun z => hw (by rw [z.1, z.2]; exact h))]; exact f.1 q' j' hw
theorem FG.wL {WI WL : Nat → Nat → Prop} {σ σ' : vSt} (f : FG WI WL σ σ') {q j : Nat} {v : Int64} (h : WL q j) : FG WI WL σ (sL σ' q j v) := by
  refine ⟨f.1, fun q' j' hw => ?_⟩
  rw [sL_if, if_neg (fun z => hw (by rw [z.1, z.2]; exact h))]; exact f.2 q' j' hw
theorem FB.g {b n : Nat} {σ σ' : vSt} (f : FB b n σ σ') : FG (fun q j => (q = b ∧ j < n) ∨ q = b + 1) (fun q _ => q = b) σ σ' := by
  refine ⟨fun q j h => ?_, fun q j h => f.2.1 q j h⟩
  by_cases a : q = b
  · rw [a]; exact f.2.2 j (by omega)
  · exact f.1 q j a (by omega)
theorem GD.fg {WI WL : Nat → Nat → Prop} {σ σ' : vSt} {w h : Nat} {cnt : Nat → Int32} (g : GD σ w h cnt) (f : FG WI WL σ σ') (hI : ∀ q j, WI q j → 6 ≤ q) (hL : ∀ q j, WL q j → 6 ≤ q) : GD σ' w h cnt := by
  obtain ⟨⟨hd, a1, a2, a3, a4, a5⟩, ⟨m1, m2⟩, g3, g4⟩ := g
  have kI : ∀ q j, q < 6 → gI σ' q j = gI σ q j := fun q j hq => f.1 q j (fun z => by have := hI q j z; omega)
  have kL : ∀ q j, q < 6 → gL σ' q j = gL σ q j := fun q j hq => f.2 q j (fun z => by have := hL q j z; omega)
  refine ⟨⟨hd, ?_, ?_, ?_, ?_, ?_⟩, ⟨fun c hc e => ?_, fun k hk e => ?_⟩, fun k hk => ?_, fun e he s hs => ?_⟩
  · rw [kI 0 5 (by decide), a1]
  · rw [kI 0 6 (by decide), a2]
  · rw [kI 0 7 (by decide), a3]
  · rw [kI 0 8 (by decide), a4]
  · rw [kI 0 9 (by decide), a5]
  · rw [kL 2 c (by decide)]; exact m1 c hc e
  · rw [kL 3 k (by decide)]; exact m2 k hk e
  · rw [kI 1 k (by decide)]; exact g3 k hk
  · rw [kI 5 _ (by decide), kI 4 _ (by decide)]; exact g4 e he s hs
def WNi (b q j : Nat) : Prop := (q = b ∧ 10 ≤ j ∧ j < 13) ∨ q = 11 ∨ q = 12
def WNl (q j : Nat) : Prop := q = 11
def FN (b : Nat) (σ σ' : vSt) : Prop := FG (WNi b) WNl σ σ'
theorem FN.gd {b w h : Nat} {σ σ' : vSt} {cnt : Nat → Int32} (hb : 6 ≤ b) (g : GD σ w h cnt) (f : FN b σ σ') : GD σ' w h cnt := g.fg f (fun q j x => by rcases x with x | x | x <;> omega) (fun q j x => by have : q = 11 := x; omega)
theorem FN.sy {b w h : Nat} {σ σ' : vSt} {cnt : Nat → Int32} {mk : Nat → Nat} (hb : b = 6 ∨ b = 13) (s : SY σ b w h cnt mk) (f : FN b σ σ') : SY σ' b w h cnt mk :=
  SY_of s (fun j x1 x2 x3 => f.1 b j (fun z => by rcases z with z | z | z <;> omega)) (fun j x => f.1 (b + 1) j (fun z => by rcases z with z | z | z <;> omega)) (fun j x => f.2 b j (fun z => by have : b = 11 := z; omega))
theorem FN_11 {b n : Nat} {σ σ' : vSt} (f : FB 11 n σ σ') : FN b σ σ' := f.g.mono (fun q j x => Or.inr (by rcases x with x | x; exact Or.inl x.1; exact Or.inr x)) (fun q j x => x)
theorem FN_fnC {b r e p : Nat} {σ : vSt} : FN b σ (fnC b σ r e p) := by
  unfold fnC
  exact ((FG.rf.wI (Or.inl ⟨rfl, by decide, by decide⟩)).wI (Or.inl ⟨rfl, by decide, by decide⟩)).wI (Or.inl ⟨rfl, by decide, by decide⟩)
theorem k_trials {b w h : Nat} {cnt : Nat → Int32} {mk : Nat → Nat} (hb : b = 6 ∨ b = 13) (h3 : ∀ e, mk e < 3) (hf : fitA w h cnt mk ∧ ¬ hasR w h mk) {r : Nat} (hr : r = 6 ∨ r = 7) : ∀ (n i : Nat) (σ : vSt), i ≤ gE w h → gE w h < i + n → GD σ w h cnt → SY σ b w h cnt mk → ∃ σ', FN b σ σ' ∧ ((lsF (ded6 w h cnt mk r) i (gE w h - i) = 99 ∧ f_X4_findNext_68x35 b (nI (tv r)) (nI r) n (nI i) σ = some (.inr σ')) ∨ (lsF (ded6 w h cnt mk r) i (gE w h - i) ≠ 99 ∧ f_X4_findNext_68x35 b (nI (tv r)) (nI r) n (nI i) σ = some (.inl (nI 1, σ')) ∧ gI σ' b 10 = nI r ∧ gI σ' b 11 = nI (lsF (ded6 w h cnt mk r) i (gE w h - i)) ∧ gI σ' b 12 = tI 99)) := by
  intro n
  induction n with
  | zero => intro i σ h1 h2; omega
  | succ n ih =>
    intro i σ h1 h2 g s
    have hd := g.1.1
    have h40 := gE_40 hd
    rw [f_X4_findNext_68x35.eq_2, g.1.2.2.2.2.2]
    by_cases hi : gE w h ≤ i
    · rw [if_pos ((nI_leI (by omega) (by omega)).mpr hi), show gE w h - i = 0 by omega]
      exact ⟨σ, FG.rf, Or.inl ⟨rfl, rfl⟩⟩
    · have hE : i < gE w h := by omega
      rw [if_neg (by rw [nI_leI (by omega) (by omega)]; exact hi), k_markOf hd s.1 hE (h3 i)]
      simp only [ob]
      rw [nI_1 i]
      by_cases h0 : mk i = 0
      · rw [if_pos (by rw [h0])]
        obtain ⟨σ1, e1, f1, s1⟩ := k_copyFrom (b := 11) (b2 := b) (by omega) (by omega) (by omega) s
        rw [e1]
        simp only [ob]
        have g1 := g.fb (by decide) f1
        obtain ⟨σ2, e2, f2, s2⟩ := k_settleEdge (b := 11) (by decide) g1 s1 hf.2 hE h0 (v := tv r) (by unfold tv; split; exact Or.inl rfl; exact Or.inr rfl)
        rw [e2]
        simp only [ob]
        have g2 := g1.fb (by decide) f2
        obtain ⟨σ3, e3, f3, s3⟩ := k_settle (b := 11) (by decide) g2 s2
        rw [e3]
        simp only [ob]
        have g3 := g2.fb (by decide) f3
        have F3 : FN b σ σ3 := ((FN_11 f1).tr (FN_11 f2)).tr (FN_11 f3)
        rw [k_fits hd s3]
        simp only [ob]
        by_cases hfl : fitA w h cnt (clo w h cnt 41 (um mk i (tv r)))
        · rw [if_neg (by rw [pI_0]; exact fun z => z hfl), lsF_n hE (fun q => q.2 hfl)]
          obtain ⟨σ', F', c⟩ := ih (i + 1) σ3 (by omega) (by omega) g3 (F3.sy hb s)
          exact ⟨σ', F3.tr F', c⟩
        · rw [if_pos (pI_0.mpr hfl), lsF_y hE (show ded6 w h cnt mk r i from ⟨h0, hfl⟩)]
          obtain ⟨v10, v11, v12⟩ := fnC_10 (b := b) (σ := σ3) (r := r) (e := i) (p := 99)
          exact ⟨fnC b σ3 r i 99, F3.tr FN_fnC, Or.inr ⟨by omega, rfl, v10, v11, v12⟩⟩
      · rw [if_neg (by rw [nI_eq (by have := h3 i; omega) (by decide)]; exact h0), lsF_n hE (fun q => h0 q.1)]
        exact ih (i + 1) σ (by omega) (by omega) g s
theorem FN.trr {b : Nat} {x y z : vSt} (f : FN b x y) (g : FN b y z) : FN b x z := FG.tr f g
theorem k_findNext {σ : vSt} {b w h : Nat} {cnt : Nat → Int32} {mk : Nat → Nat} (hb : b = 6 ∨ b = 13) (h3 : ∀ e, mk e < 3) (g : GD σ w h cnt) (s : SY σ b w h cnt mk) {l : Nat} (hl : l < 8) : ∃ σ', FN b σ σ' ∧ ((dN w h cnt mk l = none ∧ f_X4_findNext b (nI l) σ = some (nI 0, σ')) ∨ ∃ r e p, dN w h cnt mk l = some (r, e, p) ∧ f_X4_findNext b (nI l) σ = some (nI 1, σ') ∧ gI σ' b 10 = nI r ∧ gI σ' b 11 = nI e ∧ gI σ' b 12 = tI p) := by
  have hd := g.1.1
  have h40 := gE_40 hd
  have rest : dP w h cnt mk (min (l + 1) 6) = none → ∃ σ', FN b σ σ' ∧ ((dN w h cnt mk l = none ∧ ((f_X0_fits b σ).bind fun v15 => (if v15 = nI 0 then some ((nI 0), σ) else (if (gI σ b 9) = nI 0 then ((f_X4_findNext_41 b (nI l) 600 (nI 6) σ).bind fun φ25 => match φ25 with | .inl r9 => some r9 | .inr σ22 => some ((nI 0), σ22)) else some ((nI 0), σ)))) = some (nI 0, σ')) ∨ ∃ r e p, dN w h cnt mk l = some (r, e, p) ∧ ((f_X0_fits b σ).bind fun v15 => (if v15 = nI 0 then some ((nI 0), σ) else (if (gI σ b 9) = nI 0 then ((f_X4_findNext_41 b (nI l) 600 (nI 6) σ).bind fun φ25 => match φ25 with | .inl r9 => some r9 | .inr σ22 => some ((nI 0), σ22)) else some ((nI 0), σ)))) = some (nI 1, σ') ∧ gI σ' b 10 = nI r ∧ gI σ' b 11 = nI e ∧ gI σ' b 12 = tI p) := by
    intro hP
    rw [k_fits hd s]
    simp only [ob]
    by_cases hfi : fitA w h cnt mk
    · rw [if_neg (by rw [pI_0]; exact fun z => z hfi), s.2.2.2.2]
      by_cases hr : hasR w h mk
      · rw [if_neg (by rw [pI_0]; exact fun z => z ((good_has hfi).mpr hr))]
        exact ⟨σ, FG.rf, Or.inl ⟨dN_n hP (fun q => q.2 hr), rfl⟩⟩
      · rw [if_pos (pI_0.mpr (fun z => hr ((good_has hfi).mp z)))]
        rw [f_X4_findNext_41.eq_2]
        by_cases h6 : l < 6
        · rw [if_pos ((nI_ltI (by omega) (by decide)).mpr h6)]
          exact ⟨σ, FG.rf, Or.inl ⟨dN_l hP h6, rfl⟩⟩
        · rw [if_neg (by rw [nI_ltI (by omega) (by decide)]; exact h6), if_neg (by decide), if_pos rfl]
          simp only [ob]
          obtain ⟨σ1, F1, c1⟩ := k_trials hb h3 ⟨hfi, hr⟩ (r := 6) (Or.inl rfl) 600 0 σ (Nat.zero_le _) (by omega) g s
          rw [show nI (tv 6) = nI 1 from rfl] at c1
          rcases c1 with ⟨c1, c2⟩ | ⟨c1, c2, v10, v11, v12⟩
          · rw [c2]
            simp only [ob]
            have e6 : dT w h cnt mk 6 = none := by unfold dT; exact if_pos c1
            have hdN := dN_7 hP h6 ⟨hfi, hr⟩ e6
            rw [show nI 6 + 1 = nI 7 from rfl, f_X4_findNext_41.eq_2]
            by_cases h7 : l = 7
            · subst h7
              rw [if_neg (by decide), if_neg (by decide), if_neg (by decide)]
              simp only [ob]
              obtain ⟨σ2, F2, c3⟩ := k_trials hb h3 ⟨hfi, hr⟩ (r := 7) (Or.inr rfl) 600 0 σ1 (Nat.zero_le _) (by omega) (F1.gd (by omega) g) (F1.sy hb s)
              rw [show nI (tv 7) = nI 2 from rfl] at c3
              rw [if_pos rfl] at hdN
              rw [hdN]
              rcases c3 with ⟨c3, c4⟩ | ⟨c3, c4, v10, v11, v12⟩
              · rw [c4]
                simp only [ob]
                rw [show nI 7 + 1 = nI 8 from rfl, f_X4_findNext_41.eq_2, if_pos (by decide)]
                exact ⟨σ2, F1.trr F2, Or.inl ⟨by unfold dT; exact if_pos c3, rfl⟩⟩
              · rw [c4]
                exact ⟨σ2, F1.trr F2, Or.inr ⟨7, _, 99, by unfold dT; exact if_neg c3, rfl, v10, v11, v12⟩⟩
            · rw [if_pos ((nI_ltI (by omega) (by decide)).mpr (by omega))]
              rw [if_neg h7] at hdN
              exact ⟨σ1, F1, Or.inl ⟨hdN, rfl⟩⟩
          · rw [c2]
            have e6 : dT w h cnt mk 6 = some (6, lst (gE w h) (ded6 w h cnt mk 6), 99) := by unfold dT; exact if_neg c1
            exact ⟨σ1, F1, Or.inr ⟨6, _, 99, dN_6 hP h6 ⟨hfi, hr⟩ e6, rfl, v10, v11, v12⟩⟩
    · rw [if_pos (pI_0.mpr hfi)]
      exact ⟨σ, FG.rf, Or.inl ⟨dN_n hP (fun q => hfi q.1), rfl⟩⟩
  unfold f_X4_findNext
  by_cases h5 : l < 5
  · have hA := k_findAtPlace g s hl
    rw [show min (l + 1) 5 = min (l + 1) 6 by omega] at hA
    rcases hA with ⟨a1, a2⟩ | ⟨r, e, p, a1, a2⟩
    · rw [a2]
      simp only [ob]
      rw [if_pos trivial, if_pos ((nI_ltI (by omega) (by decide)).mpr h5)]
      simp only [ob]
      exact rest a1
    · rw [a2]
      simp only [ob]
      rw [if_neg (by decide)]
      obtain ⟨v10, v11, v12⟩ := fnC_10 (b := b) (σ := σ) (r := r) (e := e) (p := p)
      exact ⟨_, FN_fnC, Or.inr ⟨r, e, p, dN_y a1, rfl, v10, v11, v12⟩⟩
  · have hA := k_plain g s (l := l) (by omega) hl
    rw [show (6 : Nat) = min (l + 1) 6 by omega] at hA
    rcases hA with ⟨a1, a2, a3⟩ | ⟨r, e, p, a1, a2⟩
    · rw [a2]
      simp only [ob]
      rw [if_pos trivial, if_neg (by rw [nI_ltI (by omega) (by decide)]; exact h5), a3]
      simp only [ob]
      rw [if_pos trivial]
      simp only [ob]
      exact rest a1
    · obtain ⟨v10, v11, v12⟩ := fnC_10 (b := b) (σ := σ) (r := r) (e := e) (p := p)
      refine ⟨_, FN_fnC, Or.inr ⟨r, e, p, dN_y a1, ?_, v10, v11, v12⟩⟩
      rcases a2 with a2 | ⟨a2, a3⟩
      · rw [a2]
        simp only [ob]
        rw [if_neg (by decide)]
      · rw [a2]
        simp only [ob]
        rw [if_pos trivial, if_neg (by rw [nI_ltI (by omega) (by decide)]; exact h5), a3]
        simp only [ob]
        rw [if_neg (by decide)]
        simp only [ob]
