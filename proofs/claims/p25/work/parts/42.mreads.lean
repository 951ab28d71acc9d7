/-! THE REFERENCE'S READING: the rows -/
def WQ (q j : Nat) : Prop := q = 8 ∨ (q = 0 ∧ 19 ≤ j ∧ j ≤ 22)
theorem RC.next {τ : vSt} {rr width col : Nat} {acc : List Int32} (h : RC τ rr width col acc) (h1 : rr = 0 ∨ col = width) : RC τ (rr + 1) col 0 acc := by
  rcases h1 with rfl | rfl
  · refine ⟨by rw [h.1]; omega, fun r j hrj => ?_⟩
    rcases hrj with ⟨a, b⟩ | ⟨a, b⟩
    · have hr0 : r = 0 := by omega
      subst hr0
      have := h.2 0 j (Or.inr ⟨rfl, b⟩)
      rw [Nat.zero_mul] at this ⊢
      exact this
    · omega
  · refine ⟨by rw [h.1, Nat.succ_mul]; rfl, fun r j hrj => ?_⟩
    rcases hrj with ⟨a, b⟩ | ⟨a, b⟩
    · rcases Nat.lt_or_ge r rr with c | c
      · exact h.2 r j (Or.inl ⟨c, b⟩)
      · exact h.2 r j (Or.inr ⟨by omega, b⟩)
    · omega
def vOK (b : Bool) : Int32 := if b then nI 1 else nI 0
theorem m_readsRow {T : List Int32} {width rr N least : Nat} (hw : width ≤ 4) (hr : rr < 4) (hl : (rr = 0 ∧ least = 1) ∨ (0 < rr ∧ least = width)) {p : Nat} {acc : List Int32} {τ : vSt} (h1 : p ≤ T.length) (ht : TX τ T) (hp : gI τ 0 21 = nI p) (h20 : gI τ 0 20 = nI rr) (hrc : RC τ rr width 0 acc) : ∃ τ' p' col acc', f_X7_readsRow (nI least) (nI width) τ = some (vOK (erB col width (rr + 1)), τ') ∧ p' ≤ T.length ∧ col ≤ width ∧ TX τ' T ∧ gI τ' 0 21 = nI p' ∧ gI τ' 0 20 = nI (rr + 1) ∧ gI τ' 0 19 = nI col ∧ RC τ' rr width col acc' ∧ Fr WQ τ τ' ∧ (col = width ∨ hdN T p') ∧ rdT N (tk (T.drop p) p) 0 width (rr + 1) acc = rdT N (tk (T.drop p') p') col width (rr + 1) acc' := by
  obtain ⟨τ1, p', col, acc', e1, e2, _, e4, e5, e6, e7, e8, e9, e10, e11⟩ := m_row1 (T := T) (N := N) hw hr 600 p 0 acc τ τ h1 (Nat.zero_le _) (by omega) ht hp h20 hrc Fr.rf
  have e1' : f_X7_readsRow_2 (nI width) 600 (nI 0) τ = some (nI col, τ1) := e1
  have f9 : Fr WQ τ τ1 := e9.mono (fun q j z => by rcases z with z | z <;> unfold WQ <;> omega)
  unfold f_X7_readsRow
  rw [e1']
  simp only [ob]
  rw [sI_ne τ1 _ (by simp), e7, nI_add]
  have k : ∀ q j, ¬ (q = 0 ∧ (j = 19 ∨ j = 20)) → gI (sI (sI τ1 0 19 (nI col)) 0 20 (nI (rr + 1))) q j = gI τ1 q j := fun q j hn => by rw [sI_ne _ _ (by omega), sI_ne _ _ (by omega)]
  have fz : Fr WQ τ (sI (sI τ1 0 19 (nI col)) 0 20 (nI (rr + 1))) := (f9.wr (Or.inr ⟨rfl, by decide, by decide⟩) (by decide)).wr (Or.inr ⟨rfl, by decide, by decide⟩) (by decide)
  refine ⟨sI (sI τ1 0 19 (nI col)) 0 20 (nI (rr + 1)), p', col, acc', ?_, e2, e4, e5.same (k 0 4 (by omega)) (fun j => k 3 j (by omega)), by rw [k 0 21 (by omega)]; exact e6, sI_same _ _ _ _, by rw [sI_ne _ _ (by simp), sI_same], e8.same (fun j => k 8 j (by omega)), fz, e10, e11⟩
  have hlc : nI col < nI least ↔ erB col width (rr + 1) = false := by
    rw [nI_ltI (by omega) (by omega)]
    unfold erB
    rcases hl with ⟨a, b⟩ | ⟨a, b⟩
    · rw [if_pos (by omega)]; simp; omega
    · rw [if_neg (by omega)]; simp; omega
  by_cases c : erB col width (rr + 1) = true
  · rw [if_neg (fun z => by rw [hlc.mp z] at c; exact absurd c (by decide)), c]; rfl
  · have c' : erB col width (rr + 1) = false := by
      cases q : erB col width (rr + 1)
      · rfl
      · exact absurd q c
    rw [if_pos (hlc.mpr c'), c']; rfl
theorem tk_ne : ∀ (L : List Int32) (k : Nat) (d : Int32) (k' : Nat) (R : List (Int32 × Nat)), tk L k = (d, k') :: R → ¬ d = nI 32 := by
  intro L
  induction L with
  | nil => intro k d k' R e; exact absurd e (by simp [tk])
  | cons z L ihL =>
    intro k d k' R e
    by_cases hz : z = nI 32
    · exact ihL (k + 1) d k' R (by rw [show tk (z :: L) k = tk L (k + 1) from if_pos hz] at e; exact e)
    · rw [show tk (z :: L) k = (z, k) :: tk L (k + 1) from if_neg hz] at e
      have := (List.cons.inj e).1
      rw [← (Prod.mk.inj this).1]; exact hz
def LPR (T : List Int32) (N W : Nat) (τ : vSt) (p col k : Nat) (Wd : Nat) (acc : List Int32) : Prop := p ≤ T.length ∧ col ≤ Wd ∧ Wd ≤ 4 ∧ 1 ≤ k ∧ k ≤ 4 ∧ (k = 1 → col = W) ∧ (k ≠ 1 → Wd = W) ∧ TX τ T ∧ gI τ 0 21 = nI p ∧ gI τ 0 20 = nI k ∧ gI τ 0 19 = nI col ∧ RC τ (k - 1) Wd col acc ∧ (col = Wd ∨ hdN T p)
theorem m_reads1 {T : List Int32} {N W : Nat} (hW : W ≤ 4) : ∀ (n p col k Wd : Nat) (acc : List Int32) (τ τ0 : vSt), LPR T N W τ p col k Wd acc → 5 < n + k → Fr WQ τ0 τ → ∃ τ' p' col' k' Wd' acc', f_X7_reads_27 (nI W) n (vOK (erB col Wd k)) τ = some (vOK (erB col' Wd' k'), τ') ∧ LPR T N W τ' p' col' k' Wd' acc' ∧ Fr WQ τ0 τ' ∧ rdT N (tk (T.drop p) p) col Wd k acc = rdT N (tk (T.drop p') p') col' Wd' k' acc' ∧ (∀ c x ts, tk (T.drop p') p' = (c, x) :: ts → c = nI 47 → ¬ (erB col' Wd' k' = true ∧ k' ≠ 4)) := by
  intro n
  induction n with
  | zero => intro p col k Wd acc τ τ0 l h1; obtain ⟨_, _, _, _, _, _⟩ := l; omega
  | succ n ih =>
    intro p col k Wd acc τ τ0 l hn hf
    obtain ⟨l1, l2, l3, l4, l5, l6, l7, l8, l9, l10, l11, l12, l13⟩ := l
    rw [f_X7_reads_27.eq_2]
    by_cases a : erB col Wd k = true
    · rw [a, if_neg (show ¬ vOK true = nI 0 by decide), l10]
      by_cases b : 4 ≤ k
      · rw [if_pos ((nI_leI (by decide) (by omega)).mpr b)]
        exact ⟨τ, p, col, k, Wd, acc, by rw [a], ⟨l1, l2, l3, l4, l5, l6, l7, l8, l9, l10, l11, l12, l13⟩, hf, rfl, fun c x ts _ _ z => z.2 (by omega)⟩
      · rw [if_neg (by rw [nI_leI (by decide) (by omega)]; exact b)]
        obtain ⟨τ1, f1, ⟨x1, x2, x3⟩ | ⟨p', y0, y1, y2, y3⟩⟩ := m_next l1 l8 l9
        · have ht1 := l8.wa f1
          have f1q : Fr WQ τ0 τ1 := hf.tr (f1.mono (fun q j z => by unfold WA at z; unfold WQ; omega))
          rw [x2]
          simp only [ob]
          rw [if_neg (by decide)]
          exact ⟨τ1, T.length, col, k, Wd, acc, by rw [a], ⟨Nat.le_refl _, l2, l3, l4, l5, l6, l7, ht1, x3, by rw [f1.2.1 0 20 (fun z => by have := z.2; omega)]; exact l10, by rw [f1.2.1 0 19 (fun z => by have := z.2; omega)]; exact l11, l12.same (fun j => f1.2.1 8 j (fun z => by have := z.1; omega)), Or.inr (Or.inl rfl)⟩, f1q, by rw [x1, tk_end (Nat.le_refl _)], fun c x ts e => by rw [tk_end (Nat.le_refl _)] at e; exact absurd e (by simp)⟩
        · have ht1 := l8.wa f1
          have f1q : Fr WQ τ0 τ1 := hf.tr (f1.mono (fun q j z => by unfold WA at z; unfold WQ; omega))
          have r1 := l12.same (fun j => f1.2.1 8 j (fun z => by have := z.1; omega))
          have g20 : gI τ1 0 20 = nI k := by rw [f1.2.1 0 20 (fun z => by have := z.2; omega)]; exact l10
          have g19 : gI τ1 0 19 = nI col := by rw [f1.2.1 0 19 (fun z => by have := z.2; omega)]; exact l11
          rw [y2]
          simp only [ob]
          by_cases c : txV T p' = nI 47
          · have hcW : col = W ∧ (k - 1 = 0 ∨ col = Wd) := by
              by_cases k1 : k = 1
              · exact ⟨l6 k1, Or.inl (by omega)⟩
              · have := l7 k1
                unfold erB at a
                rw [if_neg k1] at a
                have := of_decide_eq_true a
                exact ⟨by omega, Or.inr this⟩
            rw [if_pos c, y3, nI_add]
            have r2 : RC τ1 k W 0 acc := by
              have := r1.next hcW.2
              rw [show k - 1 + 1 = k by omega, hcW.1] at this
              exact this
            have kk : ∀ q j, ¬ (q = 0 ∧ j = 21) → gI (sI τ1 0 21 (nI (p' + 1))) q j = gI τ1 q j := fun q j hn => by rw [sI_ne _ _ (by omega)]
            obtain ⟨τ2, p2, col2, acc2, e1, e2, e3, e4, e5, e6, e7, e8, e9, e10, e11⟩ := m_readsRow (T := T) (width := W) (rr := k) (N := N) (least := W) hW (by omega) (Or.inr ⟨by omega, rfl⟩) (p := p' + 1) (acc := acc) (τ := sI τ1 0 21 (nI (p' + 1))) (by omega) (ht1.same (kk 0 4 (by omega)) (fun j => kk 3 j (by omega))) (sI_same _ _ _ _) (by rw [kk 0 20 (by omega)]; exact g20) (r2.same (fun j => kk 8 j (by omega)))
            rw [e1]
            simp only [ob]
            have f2 : Fr WQ τ0 τ2 := (f1q.wr (Or.inr ⟨rfl, by decide, by decide⟩) (by decide)).tr e9
            obtain ⟨τ3, p3, col3, k3, Wd3, acc3, z1, z2, z3, z4, z5⟩ := ih p2 col2 (k + 1) W acc2 τ2 τ0 ⟨e2, e3, hW, by omega, by omega, fun q => by omega, fun _ => rfl, e4, e5, e6, e7, e8, e10⟩ (by omega) f2
            refine ⟨τ3, p3, col3, k3, Wd3, acc3, z1, z2, z3, ?_, z5⟩
            rw [← z4, ← e11, y1, ← hcW.1]
            show (if txV T p' = nI 47 then (if erB col Wd k = true then (if k = 4 then _ else _) else _) else _) = _
            rw [if_pos c, if_pos a, if_neg (by omega)]
          · rw [if_neg c]
            have c32 : ¬ txV T p' = nI 32 := tk_ne _ _ _ _ _ y1
            have hd : col = Wd ∨ hdN T p' := l13.imp id (fun z => by
              rcases z with z | ⟨z1, z2, z3⟩
              · rw [z, tk_end (Nat.le_refl _)] at y1; exact absurd y1 (by simp)
              · rw [tk_ch z1 z2] at y1
                have := (Prod.mk.inj (List.cons.inj y1).1).2
                subst this
                exact Or.inr ⟨z1, z2, z3⟩)
            refine ⟨τ1, p', col, k, Wd, acc, by rw [a], ⟨by omega, l2, l3, l4, l5, l6, l7, ht1, y3, g20, g19, r1, hd⟩, f1q, by rw [y1, tk_ch y0 c32], fun c' x ts e h47 => ?_⟩
            rw [tk_ch y0 c32] at e
            have := (Prod.mk.inj (List.cons.inj e).1).1
            exact absurd (this.trans h47) c
    · have a' : erB col Wd k = false := by
        cases q : erB col Wd k
        · rfl
        · exact absurd q a
      rw [a', if_pos (show vOK false = nI 0 from rfl)]
      exact ⟨τ, p, col, k, Wd, acc, by rw [a'], ⟨l1, l2, l3, l4, l5, l6, l7, l8, l9, l10, l11, l12, l13⟩, hf, rfl, fun c x ts _ _ z => a z.1⟩
