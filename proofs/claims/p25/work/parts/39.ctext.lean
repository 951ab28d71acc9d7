/-! THE TEXT: how it is read; the class's read -/
def erB (col width rows : Nat) : Bool := if rows = 1 then decide (0 < col) else decide (col = width)
def isC (c : Int32) : Bool := if c = nI 46 then true else if c < nI 48 then false else if nI 51 < c then false else true
def vlC (c : Int32) : Int32 := if c = nI 46 then -1 else c - nI 48
def rdT (N : Nat) : List (Int32 × Nat) → Nat → Nat → Nat → List Int32 → (Nat × Nat × List Int32) ⊕ Nat
  | [], col, width, rows, acc => if erB col width rows then .inl (col, rows, acc) else .inr N
  | (c, p) :: ts, col, width, rows, acc => if c = nI 47 then (if erB col width rows then (if rows = 4 then .inr p else rdT N ts 0 col (rows + 1) acc) else .inr p) else if isC c then (if width ≤ col then .inr p else if acc.length < 16 then rdT N ts (col + 1) width rows (acc ++ [vlC c]) else .inr p) else .inr p
def TC (σ : vSt) (T : List Int32) : Prop := gI σ 27 2 = nI T.length ∧ T.length ≤ 40 ∧ ∀ (i : Nat) (c : Int32), T[i]? = some c → gI σ 28 i = c
def AC (σ : vSt) (acc : List Int32) : Prop := ∀ (i : Nat) (c : Int32), acc[i]? = some c → gI σ 29 i = c
def Fc (σ σ' : vSt) : Prop := (∀ q j, ¬ (q = 27 ∧ (j = 3 ∨ j = 4 ∨ j = 5)) → q ≠ 29 → gI σ' q j = gI σ q j) ∧ σ'.2 = σ.2
theorem Fc.wr {σ σ' : vSt} (x : Fc σ σ') {q j : Nat} {v : Int32} (hq : (q = 27 ∧ (j = 3 ∨ j = 4 ∨ j = 5)) ∨ q = 29) : Fc σ (sI σ' q j v) := ⟨fun q' j' h1 h2 => by rw [sI_ne _ _ (by omega)]; exact x.1 q' j' h1 h2, x.2⟩
theorem Fc.rf {σ : vSt} : Fc σ σ := ⟨fun _ _ _ _ => rfl, rfl⟩
theorem Fc.tr {σ σ1 σ2 : vSt} (x : Fc σ σ1) (y : Fc σ1 σ2) : Fc σ σ2 := ⟨fun q j h1 h2 => (y.1 q j h1 h2).trans (x.1 q j h1 h2), y.2.trans x.2⟩
theorem TC.fc {σ σ' : vSt} {T : List Int32} (t : TC σ T) (f : Fc σ σ') : TC σ' T := ⟨(f.1 27 2 (by omega) (by decide)).trans t.1, t.2.1, fun i c hc => (f.1 28 i (by omega) (by decide)).trans (t.2.2 i c hc)⟩
theorem k_rowIsWhole {σ : vSt} {col width rows : Nat} (h1 : gI σ 27 3 = nI width) (h2 : gI σ 27 4 = nI rows) (h3 : gI σ 27 5 = nI col) (b1 : col < 100) (b2 : width < 100) (b3 : rows < 100) : f_X5_rowIsWhole σ = some (if erB col width rows then nI 1 else nI 0) := by
  unfold f_X5_rowIsWhole erB
  rw [h1, h2, h3]
  by_cases a : rows = 1
  · rw [if_pos (by rw [a]), if_pos a]
    by_cases b : col ≤ 0
    · rw [if_pos ((nI_leI (by omega) (by decide)).mpr b), if_neg (by simp; omega)]
    · rw [if_neg (by rw [nI_leI (by omega) (by decide)]; exact b), if_pos (by simp; omega)]
  · rw [if_neg (by rw [nI_eq (by omega) (by decide)]; exact a), if_neg a]
    by_cases b : col = width
    · rw [if_pos (by rw [b]), if_pos (by simp [b])]
    · rw [if_neg (by rw [nI_eq (by omega) (by omega)]; exact b), if_neg (by simp [b])]
theorem k_beginRow {σ : vSt} {col width rows : Nat} (h1 : gI σ 27 3 = nI width) (h2 : gI σ 27 4 = nI rows) (h3 : gI σ 27 5 = nI col) (b1 : col < 100) (b2 : width < 100) (b3 : rows < 100) : f_X5_beginRow σ = some (if erB col width rows then (if rows = 4 then (nI 0, σ) else (nI 1, sI (sI (sI σ 27 3 (nI col)) 27 4 (nI (rows + 1))) 27 5 (nI 0))) else (nI 0, σ)) := by
  unfold f_X5_beginRow
  rw [k_rowIsWhole h1 h2 h3 b1 b2 b3]
  simp only [ob]
  by_cases c : erB col width rows = true
  · rw [if_pos c, if_pos c, if_neg (show ¬ nI 1 = nI 0 by decide), h2]
    by_cases d : rows = 4
    · rw [if_pos d, if_pos (show nI rows = nI 4 by rw [d])]
    · rw [if_neg d, if_neg (show ¬ nI rows = nI 4 by rw [nI_eq (by omega) (by decide)]; exact d), sI_ne σ _ (by decide), h2, h3, nI_add]
  · rw [if_neg c, if_neg c, if_pos (show nI 0 = nI 0 from rfl)]
theorem nI_prd {r : Nat} (h : 1 ≤ r) : nI r - nI 1 = nI (r - 1) := by
  obtain ⟨k, rfl⟩ : ∃ k, r = k + 1 := ⟨r - 1, by omega⟩
  rw [← nI_add k 1, Nat.add_sub_cancel]
  exact Int32.add_sub_cancel _ _
theorem t_mul (a b : Nat) : nI a * nI b = nI (a * b) := (Int32.ofNat_mul a b).symm
theorem k_isCell (c : Int32) : f_X5_isCell c = some (if isC c then nI 1 else nI 0) := by
  unfold f_X5_isCell isC
  by_cases a : c = nI 46
  · rw [if_pos a, if_pos a]; rfl
  rw [if_neg a, if_neg a]
  by_cases b : c < nI 48
  · rw [if_pos b, if_pos b]; rfl
  rw [if_neg b, if_neg b]
  by_cases d : nI 51 < c
  · rw [if_pos d, if_pos d]; rfl
  · rw [if_neg d, if_neg d]; rfl
theorem k_addCell {σ : vSt} {col width rows n : Nat} (c : Int32) (h1 : gI σ 27 3 = nI width) (h2 : gI σ 27 4 = nI rows) (h3 : gI σ 27 5 = nI col) (hn : n = (rows - 1) * width + col) (b0 : 1 ≤ rows) (b1 : col < 100) (b2 : width < 100) (b4 : n ≤ 16) : f_X5_addCell c σ = some (if isC c then (if width ≤ col then (nI 0, σ) else if n < 16 then (nI 1, sI (sI σ 29 n (vlC c)) 27 5 (nI (col + 1))) else (nI 0, σ)) else (nI 0, σ)) := by
  unfold f_X5_addCell
  rw [h1, h2, h3, nI_prd b0, t_mul, nI_add, ← hn]
  simp only [ob]
  rw [k_isCell]
  simp only [ob]
  by_cases d : isC c = true
  · rw [if_pos d, if_pos d, if_neg (show ¬ nI 1 = nI 0 by decide)]
    by_cases e : width ≤ col
    · rw [if_pos e, if_pos (show nI width ≤ nI col from (nI_leI (by omega) (by omega)).mpr e)]
    · rw [if_neg e, if_neg (show ¬ nI width ≤ nI col by rw [nI_leI (by omega) (by omega)]; exact e), if_neg (show ¬ nI n < nI 0 by rw [nI_ltI (by omega) (by decide)]; omega)]
      by_cases g : n < 16
      · rw [if_pos g, if_pos (show nI n < nI 16 from (nI_ltI (by omega) (by decide)).mpr g), if_pos (ig (by omega) (by omega)), if_pos (ig (by omega) (by omega)), nI_clamp (by omega), sI_ne σ _ (by simp), sI_ne σ _ (by simp), h3, nI_add]
        unfold vlC
        by_cases z : c = nI 46
        · rw [if_pos z, if_pos z]
        · rw [if_neg z, if_neg z]
      · rw [if_neg g, if_neg (show ¬ nI n < nI 16 by rw [nI_ltI (by omega) (by decide)]; exact g)]
  · rw [if_neg d, if_neg d, if_pos (show nI 0 = nI 0 from rfl)]
theorem k_read1 {T : List Int32} : ∀ (n p col width rows : Nat) (acc : List Int32) (σ σ0 : vSt), p ≤ T.length → T.length < p + n → TC σ T → gI σ 27 3 = nI width → gI σ 27 4 = nI rows → gI σ 27 5 = nI col → AC σ acc → col ≤ width → width ≤ 4 → 1 ≤ rows → rows ≤ 4 → acc.length ≤ 16 → acc.length = (rows - 1) * width + col → Fc σ0 σ → ∃ σ', Fc σ0 σ' ∧ ((∃ q, q < T.length ∧ rdT T.length (tk (T.drop p) p) col width rows acc = .inr q ∧ f_X5_read_17 n (nI p) σ = some (.inl (nI q, σ'))) ∨ (∃ c w r cs, rdT T.length (tk (T.drop p) p) col width rows acc = (if erB c w r then .inl (c, r, cs) else .inr T.length) ∧ f_X5_read_17 n (nI p) σ = some (.inr σ') ∧ gI σ' 27 3 = nI w ∧ gI σ' 27 4 = nI r ∧ gI σ' 27 5 = nI c ∧ c ≤ w ∧ w ≤ 4 ∧ r ≤ 4 ∧ AC σ' cs)) := by
  intro n
  induction n with
  | zero => intro p col width rows acc σ σ0 h1 h2; omega
  | succ n ih =>
    intro p col width rows acc σ σ0 h1 h2 ht hw hr hc ha b1 b2 b0 b3 b4 hN hf
    have h40 := ht.2.1
    rw [f_X5_read_17.eq_2, ht.1]
    by_cases a : T.length ≤ p
    · rw [if_pos ((nI_leI (by omega) (by omega)).mpr a), tk_end a]
      exact ⟨σ, hf, Or.inr ⟨col, width, rows, acc, rfl, rfl, hw, hr, hc, b1, b2, b3, ha⟩⟩
    · have hlt : p < T.length := by omega
      rw [if_neg (by rw [nI_leI (by omega) (by omega)]; exact a), if_neg (by rw [nI_leI (by decide) (by omega)]; omega), if_pos (ig (by omega) (by omega)), nI_clamp (by omega), ht.2.2 p _ (tx_get hlt)]
      simp only [ob]
      by_cases c1 : txV T p = nI 32
      · rw [if_pos c1, nI_1 p, tk_sp hlt c1]
        simp only [ob]
        rw [if_neg (show ¬ nI 1 = nI 0 by decide)]
        exact ih (p + 1) col width rows acc σ σ0 (by omega) (by omega) ht hw hr hc ha b1 b2 b0 b3 b4 hN hf
      · rw [if_neg c1, tk_ch hlt c1]
        by_cases c2 : txV T p = nI 47
        · rw [if_pos c2, k_beginRow hw hr hc (by omega) (by omega) (by omega)]
          simp only [ob]
          have hrd : rdT T.length ((txV T p, p) :: tk (T.drop (p + 1)) (p + 1)) col width rows acc = (if erB col width rows then (if rows = 4 then .inr p else rdT T.length (tk (T.drop (p + 1)) (p + 1)) 0 col (rows + 1) acc) else .inr p) := if_pos c2
          rw [hrd]
          by_cases c3 : erB col width rows = true
          · rw [if_pos c3, if_pos c3]
            by_cases c4 : rows = 4
            · rw [if_pos c4, if_pos c4]
              exact ⟨σ, hf, Or.inl ⟨p, hlt, rfl, rfl⟩⟩
            · rw [if_neg c4, if_neg c4]
              simp only [ob]
              rw [if_neg (show ¬ nI 1 = nI 0 by decide)]
              simp only [ob]
              rw [if_neg (show ¬ nI 1 = nI 0 by decide), nI_1 p]
              have hf1 : Fc σ (sI (sI (sI σ 27 3 (nI col)) 27 4 (nI (rows + 1))) 27 5 (nI 0)) := ((Fc.rf.wr (Or.inl ⟨rfl, Or.inl rfl⟩)).wr (Or.inl ⟨rfl, Or.inr (Or.inl rfl)⟩)).wr (Or.inl ⟨rfl, Or.inr (Or.inr rfl)⟩)
              have hlen : acc.length = (rows + 1 - 1) * col + 0 := by
                rw [Nat.add_sub_cancel, Nat.add_zero, hN]
                unfold erB at c3
                by_cases k1 : rows = 1
                · rw [k1]; omega
                · rw [if_neg k1] at c3
                  have k2 := of_decide_eq_true c3
                  rw [k2]
                  obtain ⟨r, rfl⟩ : ∃ r, rows = r + 1 := ⟨rows - 1, by omega⟩
                  rw [Nat.add_sub_cancel, Nat.succ_mul]
              exact ih (p + 1) 0 col (rows + 1) acc _ σ0 (by omega) (by omega) (ht.fc hf1) (by rw [sI_ne _ _ (by decide), sI_ne _ _ (by decide), sI_same]) (by rw [sI_ne _ _ (by decide), sI_same]) (sI_same _ _ _ _) (fun i c hc => by rw [sI_ne _ _ (Or.inl (by decide)), sI_ne _ _ (Or.inl (by decide)), sI_ne _ _ (Or.inl (by decide))]; exact ha i c hc) (Nat.zero_le _) (by omega) (by omega) (by omega) b4 hlen (hf.tr hf1)
          · rw [if_neg c3, if_neg c3]
            exact ⟨σ, hf, Or.inl ⟨p, hlt, rfl, rfl⟩⟩
        · rw [if_neg c2, k_addCell (n := acc.length) (txV T p) hw hr hc hN b0 (by omega) (by omega) b4]
          simp only [ob]
          have hrd : rdT T.length ((txV T p, p) :: tk (T.drop (p + 1)) (p + 1)) col width rows acc = (if isC (txV T p) then (if width ≤ col then .inr p else if acc.length < 16 then rdT T.length (tk (T.drop (p + 1)) (p + 1)) (col + 1) width rows (acc ++ [vlC (txV T p)]) else .inr p) else .inr p) := if_neg c2
          rw [hrd]
          by_cases c3 : isC (txV T p) = true
          · rw [if_pos c3, if_pos c3]
            by_cases c4 : width ≤ col
            · rw [if_pos c4, if_pos c4]
              exact ⟨σ, hf, Or.inl ⟨p, hlt, rfl, rfl⟩⟩
            · rw [if_neg c4, if_neg c4]
              by_cases c5 : acc.length < 16
              · rw [if_pos c5, if_pos c5]
                simp only [ob]
                rw [if_neg (show ¬ nI 1 = nI 0 by decide)]
                simp only [ob]
                rw [if_neg (show ¬ nI 1 = nI 0 by decide), nI_1 p]
                have hlen : (acc ++ [vlC (txV T p)]).length = acc.length + 1 := by rw [List.length_append]; rfl
                have hf1 : Fc σ (sI (sI σ 29 acc.length (vlC (txV T p))) 27 5 (nI (col + 1))) := (Fc.rf.wr (Or.inr rfl)).wr (Or.inl ⟨rfl, Or.inr (Or.inr rfl)⟩)
                refine ih (p + 1) (col + 1) width rows (acc ++ [vlC (txV T p)]) _ σ0 (by omega) (by omega) (ht.fc hf1) (by rw [sI_ne _ _ (by simp), sI_ne _ _ (by simp)]; exact hw) (by rw [sI_ne _ _ (by simp), sI_ne _ _ (by simp)]; exact hr) (sI_same _ _ _ _) ?_ (by omega) b2 b0 b3 (by omega) (by rw [hlen, hN, Nat.add_assoc]) (hf.tr hf1)
                intro i c hc
                rw [sI_ne _ _ (Or.inl (by decide))]
                by_cases hi1 : i < acc.length
                · rw [List.getElem?_append_left hi1] at hc
                  rw [sI_ne _ _ (Or.inr (by omega))]
                  exact ha i c hc
                · rw [List.getElem?_append_right (by omega)] at hc
                  by_cases hi2 : i = acc.length
                  · subst hi2
                    rw [Nat.sub_self] at hc
                    rw [sI_same]
                    exact Option.some.inj hc
                  · rw [List.getElem?_eq_none (by rw [List.length_singleton]; omega)] at hc
                    exact absurd hc (by simp)
              · rw [if_neg c5, if_neg c5]
                exact ⟨σ, hf, Or.inl ⟨p, hlt, rfl, rfl⟩⟩
          · rw [if_neg c3, if_neg c3]
            exact ⟨σ, hf, Or.inl ⟨p, hlt, rfl, rfl⟩⟩
