/-! THE REFERENCE'S READING: one row -/
theorem m_nextAt {T : List Int32} {p : Nat} {τ : vSt} (hlt : p < T.length) (ht : TX τ T) (hp : gI τ 0 21 = nI p) (c : ¬ txV T p = nI 32) : f_X7_next τ = some (txV T p, τ) := by
  have h40 := ht.2.1
  have e : f_X7_next_0 600 τ = some τ := by
    rw [f_X7_next_0.eq_2, ht.1, hp, if_neg (by rw [nI_leI (by omega) (by omega)]; omega), if_pos (ig (by omega) (by omega)), nI_clamp (by omega), ht.2.2 p _ (tx_get hlt), if_neg c]
  unfold f_X7_next
  rw [e]
  simp only [ob]
  rw [ht.1, hp, if_neg (by rw [nI_leI (by omega) (by omega)]; omega), if_pos (ig (by omega) (by omega)), nI_clamp (by omega), ht.2.2 p _ (tx_get hlt)]
theorem m_nextEnd {T : List Int32} {τ : vSt} (ht : TX τ T) (hp : gI τ 0 21 = nI T.length) : f_X7_next τ = some (-1, τ) := by
  have e : f_X7_next_0 600 τ = some τ := by
    rw [f_X7_next_0.eq_2, ht.1, hp, if_pos (Int32.le_refl _)]
  unfold f_X7_next
  rw [e]
  simp only [ob]
  rw [ht.1, hp, if_pos (Int32.le_refl _)]
theorem TX.wa {τ τ' : vSt} {T : List Int32} (ht : TX τ T) (f : Fr WA τ τ') : TX τ' T := ht.same (f.2.1 0 4 (fun z => by have := z.2; omega)) (fun j => f.2.1 3 j (fun z => by have := z.1; omega))
def RC (τ : vSt) (rr width col : Nat) (acc : List Int32) : Prop := acc.length = rr * width + col ∧ ∀ r j, ((r < rr ∧ j < width) ∨ (r = rr ∧ j < col)) → acc[r * width + j]? = some (gI τ 8 (r * 4 + j))
theorem RC.wr {τ : vSt} {rr width col : Nat} {acc : List Int32} (h : RC τ rr width col acc) (hw : width ≤ 4) (hc : col < width) (v : Int32) : RC (sI τ 8 (rr * 4 + col) v) rr width (col + 1) (acc ++ [v]) := by
  refine ⟨by rw [List.length_append, h.1]; rfl, fun r j hrj => ?_⟩
  by_cases a : r = rr ∧ j = col
  · obtain ⟨rfl, rfl⟩ := a
    rw [sI_same, List.getElem?_append_right (by rw [h.1]; exact Nat.le_refl _), h.1, Nat.sub_self]
    rfl
  · have hlt : r * width + j < acc.length := by
      rw [h.1]
      rcases hrj with ⟨b1, b2⟩ | ⟨b1, b2⟩
      · have : (r + 1) * width ≤ rr * width := Nat.mul_le_mul_right _ b1
        rw [Nat.succ_mul] at this
        omega
      · subst b1; omega
    rw [List.getElem?_append_left hlt, sI_ne _ _ (Or.inr (by omega))]
    exact h.2 r j (by omega)
theorem RC.same {τ τ' : vSt} {rr width col : Nat} {acc : List Int32} (h : RC τ rr width col acc) (e : ∀ j, gI τ' 8 j = gI τ 8 j) : RC τ' rr width col acc := ⟨h.1, fun r j hrj => by rw [e]; exact h.2 r j hrj⟩
def WR (q j : Nat) : Prop := q = 8 ∨ (q = 0 ∧ j = 21)
def hdN (T : List Int32) (p : Nat) : Prop := p = T.length ∨ (p < T.length ∧ ¬ txV T p = nI 32 ∧ isC (txV T p) = false)
theorem m_row1 {T : List Int32} {width rr N : Nat} (hw : width ≤ 4) (hr : rr < 4) : ∀ (n p col : Nat) (acc : List Int32) (τ τ0 : vSt), p ≤ T.length → col ≤ width → width < col + n → TX τ T → gI τ 0 21 = nI p → gI τ 0 20 = nI rr → RC τ rr width col acc → Fr WR τ0 τ → ∃ τ' p' col' acc', f_X7_readsRow_2 (nI width) n (nI col) τ = some (nI col', τ') ∧ p' ≤ T.length ∧ col ≤ col' ∧ col' ≤ width ∧ TX τ' T ∧ gI τ' 0 21 = nI p' ∧ gI τ' 0 20 = nI rr ∧ RC τ' rr width col' acc' ∧ Fr WR τ0 τ' ∧ (col' = width ∨ hdN T p') ∧ rdT N (tk (T.drop p) p) col width (rr + 1) acc = rdT N (tk (T.drop p') p') col' width (rr + 1) acc' := by
  intro n
  induction n with
  | zero => intro p col acc τ τ0 h1 h2 h3; omega
  | succ n ih =>
    intro p col acc τ τ0 h1 h2 h3 ht hp h20 hrc hf
    have h40 := ht.2.1
    rw [f_X7_readsRow_2.eq_2]
    by_cases a : width ≤ col
    · rw [if_pos ((nI_leI (by omega) (by omega)).mpr a)]
      exact ⟨τ, p, col, acc, rfl, h1, Nat.le_refl _, h2, ht, hp, h20, hrc, hf, Or.inl (by omega), rfl⟩
    · rw [if_neg (by rw [nI_leI (by omega) (by omega)]; exact a)]
      obtain ⟨τ1, f1, ⟨x1, x2, x3⟩ | ⟨p', y0, y1, y2, y3⟩⟩ := m_next h1 ht hp
      · have ht1 := ht.wa f1
        have f1r : Fr WR τ0 τ1 := hf.tr (f1.mono (fun _ _ z => Or.inr z))
        have i1 : f_X7_in (-1 : Int32) (nI 48) (nI 51) = some (nI 0) := rfl
        rw [x2]
        simp only [ob]
        rw [i1]
        simp only [ob]
        rw [if_pos trivial, m_nextEnd ht1 x3]
        simp only [ob]
        rw [if_neg (by decide)]
        exact ⟨τ1, T.length, col, acc, rfl, Nat.le_refl _, Nat.le_refl _, h2, ht1, x3, by rw [f1.2.1 0 20 (fun z => by have := z.2; omega)]; exact h20, hrc.same (fun j => f1.2.1 8 j (fun z => by have := z.1; omega)), f1r, Or.inr (Or.inl rfl), by rw [x1, tk_end (Nat.le_refl _)]⟩
      · have ht1 := ht.wa f1
        have f1r : Fr WR τ0 τ1 := hf.tr (f1.mono (fun _ _ z => Or.inr z))
        have h20' : gI τ1 0 20 = nI rr := by rw [f1.2.1 0 20 (fun z => by have := z.2; omega)]; exact h20
        have hrc1 := hrc.same (fun j => f1.2.1 8 j (fun z => by have := z.1; omega))
        have c32 : ¬ txV T p' = nI 32 := by
          intro q
          have : ∀ (L : List Int32) (k : Nat) (d : Int32) (k' : Nat) (R : List (Int32 × Nat)), tk L k = (d, k') :: R → ¬ d = nI 32 := by
            intro L
            induction L with
            | nil => intro k d k' R e; exact absurd e (by simp [tk])
            | cons z L ihL =>
              intro k d k' R e
              by_cases hz : z = nI 32
              · exact ihL (k + 1) d k' R (by rw [show tk (z :: L) k = tk L (k + 1) from if_pos hz] at e; exact e)
              · rw [show tk (z :: L) k = (z, k) :: tk L (k + 1) from if_neg hz] at e
                have := (List.cons.inj e).1
                rw [← (Prod.mk.inj this).1]; exact hz
          exact this _ _ _ _ _ y1 q
        have hgo : ∀ v : Int32, v = vlC (txV T p') → isC (txV T p') = true → ∃ τ' p'' col' acc', f_X7_readsRow_2 (nI width) n (nI col + 1) (sI (sI τ1 8 (rr * 4 + col) v) 0 21 (nI (p' + 1))) = some (nI col', τ') ∧ p'' ≤ T.length ∧ col ≤ col' ∧ col' ≤ width ∧ TX τ' T ∧ gI τ' 0 21 = nI p'' ∧ gI τ' 0 20 = nI rr ∧ RC τ' rr width col' acc' ∧ Fr WR τ0 τ' ∧ (col' = width ∨ hdN T p'') ∧ rdT N (tk (T.drop p) p) col width (rr + 1) acc = rdT N (tk (T.drop p'') p'') col' width (rr + 1) acc' := by
          intro v hv hC
          have f2 : Fr WR τ1 (sI (sI τ1 8 (rr * 4 + col) v) 0 21 (nI (p' + 1))) := (Fr.rf.wr (Or.inl rfl) (by decide)).wr (Or.inr ⟨rfl, rfl⟩) (by decide)
          obtain ⟨τ', p'', col', acc', e1, e2, e3, e4, e5, e6, e7, e8, e9, e10, e11⟩ := ih (p' + 1) (col + 1) (acc ++ [v]) (sI (sI τ1 8 (rr * 4 + col) v) 0 21 (nI (p' + 1))) τ0 (by omega) (by omega) (by omega) (ht1.same (by rw [sI_ne _ _ (by simp), sI_ne _ _ (by simp)]) (fun j => by rw [sI_ne _ _ (by simp), sI_ne _ _ (by simp)])) (sI_same _ _ _ _) (by rw [sI_ne _ _ (by simp), sI_ne _ _ (by simp)]; exact h20') ((hrc1.wr hw (by omega) v).same (fun j => by rw [sI_ne _ _ (by simp)])) (f1r.tr f2)
          refine ⟨τ', p'', col', acc', by rw [nI_1 col]; exact e1, e2, by omega, e4, e5, e6, e7, e8, e9, e10, ?_⟩
          rw [y1, ← e11, hv]
          have hn47 : ¬ txV T p' = nI 47 := by
            intro q
            rw [q] at hC
            exact absurd hC (by decide)
          have hlen : acc.length < 16 := by
            rw [hrc1.1]
            have : rr * width ≤ 3 * 4 := Nat.mul_le_mul (by omega) hw
            omega
          show (if txV T p' = nI 47 then _ else _) = _
          rw [if_neg hn47, if_pos hC, if_neg (by omega), if_pos hlen]
        have hix : nI rr * nI 4 + nI col = nI (rr * 4 + col) := by rw [nI_mul, nI_add]
        rw [y2]
        simp only [ob]
        by_cases d1 : txV T p' < nI 48
        · have i1 : f_X7_in (txV T p') (nI 48) (nI 51) = some (nI 0) := if_pos d1
          rw [i1]
          simp only [ob]
          rw [if_pos trivial, m_nextAt y0 ht1 y3 c32]
          simp only [ob]
          by_cases d2 : txV T p' = nI 46
          · rw [if_pos d2, m_nextAt y0 ht1 y3 c32]
            simp only [ob]
            rw [if_pos d2]
            simp only [ob]
            rw [h20', hix, if_pos (ig (by omega) (by omega)), nI_clamp (by omega), sI_ne τ1 _ (by simp), y3, nI_add]
            exact hgo (-1) (by unfold vlC; rw [if_pos d2]) (by unfold isC; rw [if_pos d2])
          · rw [if_neg d2]
            refine ⟨τ1, p', col, acc, rfl, by omega, Nat.le_refl _, h2, ht1, y3, h20', hrc1, f1r, Or.inr (Or.inr ⟨y0, c32, ?_⟩), by rw [y1, tk_ch y0 c32]⟩
            unfold isC
            rw [if_neg d2, if_pos d1]
        · by_cases d3 : nI 51 < txV T p'
          · have i1 : f_X7_in (txV T p') (nI 48) (nI 51) = some (nI 0) := (if_neg d1).trans (if_pos d3)
            have d2 : ¬ txV T p' = nI 46 := fun q => by rw [q] at d3; exact absurd d3 (by decide)
            rw [i1]
            simp only [ob]
            rw [if_pos trivial, m_nextAt y0 ht1 y3 c32]
            simp only [ob]
            rw [if_neg d2]
            refine ⟨τ1, p', col, acc, rfl, by omega, Nat.le_refl _, h2, ht1, y3, h20', hrc1, f1r, Or.inr (Or.inr ⟨y0, c32, ?_⟩), by rw [y1, tk_ch y0 c32]⟩
            unfold isC
            rw [if_neg d2, if_neg d1, if_pos d3]
          · have i1 : f_X7_in (txV T p') (nI 48) (nI 51) = some (nI 1) := (if_neg d1).trans (if_neg d3)
            have d2 : ¬ txV T p' = nI 46 := fun q => by rw [q] at d1; exact absurd d1 (by decide)
            rw [i1]
            simp only [ob]
            rw [if_neg (by decide), m_nextAt y0 ht1 y3 c32]
            simp only [ob]
            rw [if_neg d2, m_nextAt y0 ht1 y3 c32]
            simp only [ob]
            rw [h20', hix, if_pos (ig (by omega) (by omega)), nI_clamp (by omega), sI_ne τ1 _ (by simp), y3, nI_add]
            exact hgo (txV T p' - nI 48) (by unfold vlC; rw [if_neg d2]) (by unfold isC; rw [if_neg d2, if_neg d1, if_neg d3])
