/-! THE CLASS: the search -/
def SC (w h : Nat) (σ : vSt) : List (Nat → Nat) → Prop
  | [] => True
  | a :: S => (∀ e, bt (gL σ 18 S.length) e = decide (e < gE w h ∧ a e = 1)) ∧ (∀ e, bt (gL σ 19 S.length) e = decide (e < gE w h ∧ a e = 0)) ∧ opn w h a + S.length ≤ 40 ∧ SC w h σ S
theorem SC_same {w h : Nat} {σ σ' : vSt} : ∀ {S : List (Nat → Nat)}, SC w h σ S → (∀ j, j < S.length → gL σ' 18 j = gL σ 18 j ∧ gL σ' 19 j = gL σ 19 j) → SC w h σ' S
  | [], _, _ => trivial
  | a :: S, hk, he => by
    obtain ⟨h1, h2, h3, h4⟩ := hk
    have hl : (a :: S).length = S.length + 1 := List.length_cons
    have e0 := he S.length (by omega)
    exact ⟨fun e => by rw [e0.1]; exact h1 e, fun e => by rw [e0.2]; exact h2 e, h3, SC_same h4 (fun j hj => he j (by omega))⟩
def WSi (q j : Nat) : Prop := 15 ≤ q ∧ q ≤ 17
def WSl (q j : Nat) : Prop := q = 15 ∨ q = 16 ∨ q = 18 ∨ q = 19
theorem k_push {σ : vSt} {n : Nat} (h3 : gI σ 15 3 = nI n) (hn : n < 42) (a c : Int64) : f_X3_push a c σ = some (sI (sL (sL σ 18 n a) 19 n c) 15 3 (nI (n + 1))) := by
  unfold f_X3_push
  rw [h3, if_neg (by rw [nI_ltI (by omega) (by decide)]; omega), if_neg (by rw [nI_leI (by decide) (by omega)]; omega), if_neg (by rw [nI_leI (by decide) (by omega)]; omega), if_pos (ig (by omega) (by omega)), nI_clamp (by omega)]
  have e1 : gI (sL σ 18 n a) 15 3 = nI n := h3
  rw [e1, if_pos (ig (by omega) (by omega)), nI_clamp (by omega)]
  have e2 : gI (sL (sL σ 18 n a) 19 n c) 15 3 = nI n := h3
  rw [e2, nI_add]
def FS (σ σ' : vSt) : Prop := FG WSi WSl σ σ'
theorem FS_16 {n : Nat} {σ σ' : vSt} (f : FB 16 n σ σ') : FS σ σ' := f.g.mono (fun q j x => by rcases x with x | x <;> (unfold WSi; omega)) (fun q j x => Or.inr (Or.inl x))
theorem ndv_no {w h : Nat} {cnt : Nat → Int32} {c : Nat → Nat} (x : ¬ (fitA w h cnt c ∧ ¬ hasR w h c)) : ndV w h cnt c = 99 := by unfold ndV; exact if_neg x
theorem ndv_yes {w h : Nat} {cnt : Nat → Int32} {c : Nat → Nat} (x : fitA w h cnt c ∧ ¬ hasR w h c) : ndV w h cnt c = fop w h c := by unfold ndV; exact if_pos x
/-- what one node leaves -/
theorem k_goOn {σ : vSt} {w h : Nat} {cnt : Nat → Int32} {c : Nat → Nat} (hd : dim w h) (s : SY σ 16 w h cnt c) {f n : Nat} (hf : gI σ 15 4 = nI f) (hn : gI σ 15 3 = nI n) (hn2 : n < 41) (hf31 : f < 2 ^ 31) : ∃ σ', f_X3_goOn σ = some σ' ∧ FS σ σ' ∧ gI σ' 15 5 = gI σ 15 5 ∧ gI σ' 15 4 = nI (f + ndS w h cnt c) ∧ ((ndV w h cnt c = 99 ∧ gI σ' 15 3 = nI n ∧ (∀ j, gL σ' 18 j = gL σ 18 j ∧ gL σ' 19 j = gL σ 19 j) ∧ ((f = 0 ∧ ndS w h cnt c = 1 ∧ ∀ e, bt (gL σ' 15 6) e = decide (e < gE w h ∧ c e = 1)) ∨ (¬ (f = 0 ∧ ndS w h cnt c = 1) ∧ gL σ' 15 6 = gL σ 15 6))) ∨ (ndV w h cnt c ≠ 99 ∧ gI σ' 15 3 = nI (n + 2) ∧ gL σ' 15 6 = gL σ 15 6 ∧ (∀ j, j < n → gL σ' 18 j = gL σ 18 j ∧ gL σ' 19 j = gL σ 19 j) ∧ (∀ e, bt (gL σ' 18 n) e = decide (e < gE w h ∧ um c (ndV w h cnt c) 2 e = 1)) ∧ (∀ e, bt (gL σ' 19 n) e = decide (e < gE w h ∧ um c (ndV w h cnt c) 2 e = 0)) ∧ (∀ e, bt (gL σ' 18 (n + 1)) e = decide (e < gE w h ∧ um c (ndV w h cnt c) 1 e = 1)) ∧ ∀ e, bt (gL σ' 19 (n + 1)) e = decide (e < gE w h ∧ um c (ndV w h cnt c) 1 e = 0))) := by
  have h40 := gE_40 hd
  unfold f_X3_goOn
  rw [k_fits hd s]
  simp only [ob]
  by_cases hfi : fitA w h cnt c
  · rw [if_neg (by rw [pI_0]; exact fun z => z hfi), k_finished hd s]
    simp only [ob]
    by_cases hr : hasR w h c
    · rw [if_neg (by rw [pI_0]; exact fun z => z ⟨hfi, hr⟩), hf]
      have hS : ndS w h cnt c = 1 := by unfold ndS; exact iv_t ⟨hfi, hr⟩
      have hV := ndv_no (w := w) (h := h) (cnt := cnt) (c := c) (fun q => q.2 hr)
      rw [hS, hV]
      by_cases f0 : f = 0
      · subst f0
        rw [if_pos rfl, show gI (sL σ 15 6 (gL σ 16 2)) 15 4 = nI 0 from hf]
        refine ⟨_, rfl, (FG.rf.wL (Or.inl rfl)).wI ⟨by decide, by decide⟩, ?_, ?_, Or.inl ⟨rfl, ?_, fun j => ⟨?_, ?_⟩, Or.inl ⟨rfl, rfl, fun e => ?_⟩⟩⟩
        · rw [sI_ne _ _ (Or.inr (by decide)), sL_I]
        · rw [sI_same, nI_add]
        · rw [sI_ne _ _ (Or.inr (by decide)), sL_I, hn]
        · rw [sI_L_g, sL_if, if_neg (by omega)]
        · rw [sI_L_g, sL_if, if_neg (by omega)]
        · rw [sI_L_g, sL_if, if_pos ⟨rfl, rfl⟩]; exact s.1.1 e
      · rw [if_neg (by rw [nI_eq hf31 (by decide)]; exact f0)]
        refine ⟨_, rfl, FG.rf.wI ⟨by decide, by decide⟩, ?_, ?_, Or.inl ⟨rfl, ?_, fun j => ⟨rfl, rfl⟩, Or.inr ⟨fun q => f0 q.1, rfl⟩⟩⟩
        · rw [sI_ne _ _ (Or.inr (by decide))]
        · rw [sI_same, nI_add]
        · rw [sI_ne _ _ (Or.inr (by decide)), hn]
    · rw [if_pos (pI_0.mpr (fun q => hr q.2))]
      have hS : ndS w h cnt c = 0 := by unfold ndS; exact iv_f (fun q => hr q.2)
      have hV := ndv_yes (w := w) (h := h) (cnt := cnt) (c := c) ⟨hfi, hr⟩
      rw [hS, hV, Nat.add_zero]
      have hbits : ∀ i, bt (gL σ 16 3) i = true ↔ i < gE w h ∧ c i = 0 := fun i => by rw [s.1.2, decide_eq_true_iff]
      by_cases h99 : fop w h c = 99
      · have hno := (lst_99 (P := fun e => c e = 0) (by omega)).mp h99
        have hz : gL σ 16 3 = 0 := bt_eq0.mpr (fun e => by
          cases q : bt (gL σ 16 3) e with
          | false => rfl
          | true => exact absurd ((hbits e).mp q).2 (hno e ((hbits e).mp q).1))
        rw [hz, if_pos (by decide)]
        exact ⟨σ, rfl, FG.rf, rfl, hf, Or.inl ⟨h99, hn, fun j => ⟨rfl, rfl⟩, Or.inr ⟨fun q => (by cases q.2), rfl⟩⟩⟩
      · rcases lst_or (gE w h) (fun e => c e = 0) with ⟨j, a1, a2, a3, a4⟩ | ⟨_, a4⟩
        · have e0 : fop w h c = j := a4
          rw [e0]
          have hlow : gL σ 16 3 &&& (-gL σ 16 3) = b1 j := low_b1 ((hbits j).mpr ⟨a1, a2⟩) (fun l hl => by
            cases q : bt (gL σ 16 3) l with
            | false => rfl
            | true => exact absurd ((hbits l).mp q).2 (a3 l hl))
          rw [hlow, if_neg (by
            rw [lg0, bt_eq0]
            intro q
            have := q j
            rw [bt_b1 (by omega)] at this
            simp at this)]
          rw [k_push hn (by omega)]
          simp only [ob]
          rw [k_push (n := n + 1) (by rw [sI_same]) (by omega)]
          simp only [ob]
          refine ⟨_, rfl, ((((((FG.rf.wL (Or.inr (Or.inr (Or.inl rfl)))).wL (Or.inr (Or.inr (Or.inr rfl)))).wI ⟨by decide, by decide⟩).wL (Or.inr (Or.inr (Or.inl rfl)))).wL (Or.inr (Or.inr (Or.inr rfl)))).wI ⟨by decide, by decide⟩), ?_, ?_, Or.inr ⟨by omega, ?_, ?_, fun i hi => ⟨?_, ?_⟩, fun e => ?_, fun e => ?_, fun e => ?_, fun e => ?_⟩⟩
          · rw [sI_ne _ _ (Or.inr (by decide)), sL_I, sL_I, sI_ne _ _ (Or.inr (by decide)), sL_I, sL_I]
          · rw [sI_ne _ _ (Or.inr (by decide)), sL_I, sL_I, sI_ne _ _ (Or.inr (by decide)), sL_I, sL_I, hf]
          · rw [sI_same]
          · simp only [sI_L_g, sL_if]; simp
          · simp only [sI_L_g, sL_if]
            rw [if_neg (by omega), if_neg (by omega), if_neg (by omega), if_neg (by omega)]
          · simp only [sI_L_g, sL_if]
            rw [if_neg (by omega), if_neg (by omega), if_neg (by omega), if_neg (by omega)]
          · simp only [sI_L_g, sL_if]
            rw [if_neg (by omega), if_neg (by omega), if_neg (by omega), if_pos (by simp), s.1.1]
            by_cases a : e = j
            · rw [a, um_e, a2]; simp
            · rw [um_n a]
          · simp only [sI_L_g, sL_if]
            rw [if_neg (by omega), if_neg (by omega), if_pos (by simp), bt_clr (by omega), s.1.2]
            by_cases a : e = j
            · rw [if_pos a, a, um_e]; simp
            · rw [if_neg a, um_n a]
          · simp only [sI_L_g, sL_if]
            rw [if_neg (by omega), if_pos (by simp), if_neg (by omega), if_neg (by omega), bt_set (by omega), s.1.1]
            by_cases a : e = j
            · rw [if_pos a, a, um_e]; simp [a1]
            · rw [if_neg a, um_n a]
          · simp only [sI_L_g, sL_if]
            rw [if_pos (by simp), if_neg (by omega), if_neg (by omega), bt_clr (by omega), s.1.2]
            by_cases a : e = j
            · rw [if_pos a, a, um_e]; simp
            · rw [if_neg a, um_n a]
        · exact absurd a4 h99
  · rw [if_pos (pI_0.mpr hfi)]
    have hS : ndS w h cnt c = 0 := by unfold ndS; exact iv_f (fun q => hfi q.1)
    have hV := ndv_no (w := w) (h := h) (cnt := cnt) (c := c) (fun q => hfi q.1)
    rw [hS, hV]
    exact ⟨σ, rfl, FG.rf, rfl, hf, Or.inl ⟨rfl, hn, fun j => ⟨rfl, rfl⟩, Or.inr ⟨fun q => (by cases q.2), rfl⟩⟩⟩
