/-! THE LAW'S STEPS: marks, what is told, borders -/
def LR (σ : vSt) (w h : Nat) (cnt : Nat → Int32) (mk : Nat → Nat) (T : List Int32) : Prop := PZ σ w h cnt mk T ∧ PG σ w h cnt mk
theorem mg_lt (n : Nat) (σ z : vSt) {q : Nat} (j : Nat) (h : q < n) : gI (mergeS n σ z) q j = gI σ q j := by rw [mg_I, if_pos h]
theorem mg_ltL (n : Nat) (σ z : vSt) {q : Nat} (j : Nat) (h : q < n) : gL (mergeS n σ z) q j = gL σ q j := by rw [mg_L, if_pos h]
theorem mg_ge (n : Nat) (σ z : vSt) {q : Nat} (j : Nat) (h : ¬ q < n) : gI (mergeS n σ z) q j = gI z q j := by rw [mg_I, if_neg h]
theorem PZ.mg {σ' σ0 : vSt} {w h : Nat} {cnt : Nat → Int32} {mk : Nat → Nat} {T : List Int32} (q : PZ σ' w h cnt mk T) : PZ (mergeS 30 σ' σ0) w h cnt mk T := q.fg (fun _ j h => mg_lt 30 σ' σ0 j h) (fun _ j h => mg_ltL 30 σ' σ0 j h)
theorem PG.mg {σ' σ0 : vSt} {w h : Nat} {cnt : Nat → Int32} {mk : Nat → Nat} (p : PG σ0 w h cnt mk) : PG (mergeS 30 σ' σ0) w h cnt mk := p.same (fun j => mg_ge 30 σ' σ0 j (by decide))
theorem PZ.s30 {σ : vSt} {w h : Nat} {cnt : Nat → Int32} {mk : Nat → Nat} {T : List Int32} (q : PZ σ w h cnt mk T) {i j : Nat} {v : Int32} (hi : ¬ i < 30) : PZ (sI σ i j v) w h cnt mk T := q.fg (fun q j' h => sI_ne _ _ (Or.inl (by omega))) (fun q j' h => rfl)
theorem q_low (x : Int32) {n : Nat} (h1 : 1 ≤ n) (h2 : n < 2 ^ 31) : ∃ k, k < n ∧ f_L_low x (nI n) = some (nI k) := by
  obtain ⟨a, ha, e⟩ := pk_andE x (m := nI 2147483647) 31 (by decide +kernel)
  refine ⟨a % n, Nat.mod_lt _ (by omega), ?_⟩
  unfold f_L_low
  rw [if_pos (by rw [nI_eq h2 (by decide)]; omega), e, pk_rem ha (by omega) h2]
theorem PG.mark {σ : vSt} {w h : Nat} {cnt : Nat → Int32} {mk : Nat → Nat} (p : PG σ w h cnt mk) {e v : Nat} (he : e < gE w h) (hv : v < 3) : PG (sI σ 30 (18 + e) (nI v)) w h cnt (um mk e v) := by
  have h16 := gC_16 p.1.2.2
  refine ⟨⟨?_, ?_, p.1.2.2⟩, fun k hk => ?_, fun k hk => ?_, fun k => ?_, p.2.2.2.2⟩
  · rw [sI_ne _ _ (Or.inr (by omega))]; exact p.1.1
  · rw [sI_ne _ _ (Or.inr (by omega))]; exact p.1.2.1
  · rw [sI_ne _ _ (Or.inr (by omega))]; exact p.2.1 k hk
  · by_cases c : k = e
    · rw [c, sI_same, um_e]
    · rw [sI_ne _ _ (Or.inr (by omega)), um_n c]; exact p.2.2.1 k hk
  · by_cases c : k = e
    · rw [c, um_e]; exact hv
    · rw [um_n c]; exact p.2.2.2.1 k
theorem nI_far {n m : Nat} (hn : n < 2 ^ 31) (h : m ≤ n) : ∀ e, e < m → nI n ≠ nI e := by
  intro e he q
  rw [nI_eq hn (by omega)] at q
  omega
theorem q_marks {σ : vSt} {w h : Nat} {cnt : Nat → Int32} {mk : Nat → Nat} {T : List Int32} (q : LR σ w h cnt mk T) {e v : Nat} (he : e < gE w h) (hv : v < 3) : ∃ σ', f_L_marks (nI e) (nI v) σ = some (nI 1, σ') ∧ LR σ' w h cnt (um mk e v) T := by
  obtain ⟨z, p⟩ := q
  have h40 := gE_40 p.1.2.2
  unfold f_L_marks
  rw [nI_add, if_pos (ig (by omega) (by omega)), nI_clamp (by omega), p.2.2.1 e he]
  simp only [ob]
  rw [if_pos (ig (by omega) (by omega))]
  have p1 := p.mark he hv
  obtain ⟨σ1, e1, z1⟩ := z_mark (z.s30 (i := 30) (j := 18 + e) (v := nI v) (by decide)) he hv
  rw [e1]
  simp only [ob]
  have z2 := z1.mg (σ0 := sI σ 30 (18 + e) (nI v))
  have p2 := p1.mg (σ' := σ1)
  rw [if_pos trivial, z_edge z2 he, um_e]
  simp only [ob]
  rw [if_pos trivial, q_edges p2.1]
  simp only [ob]
  obtain ⟨σ3, e3, z3⟩ := z_markBad z2 (a := nI (gE w h)) (b := nI 0) (Or.inl (nI_far (by omega) (Nat.le_refl _)))
  rw [e3]
  simp only [ob]
  rw [if_pos trivial]
  have z4 := z3.mg (σ0 := mergeS 30 σ1 (sI σ 30 (18 + e) (nI v)))
  have p4 := p2.mg (σ' := σ3)
  obtain ⟨σ5, e5, z5⟩ := z_markBad z4 (a := nI 0) (b := nI 3) (Or.inr (nI_far (by decide) (Nat.le_refl _)))
  rw [e5]
  simp only [ob]
  rw [if_pos trivial]
  exact ⟨_, rfl, z5.mg, p4.mg⟩
theorem q_isTold7 {σ : vSt} {w h : Nat} {cnt : Nat → Int32} {mk : Nat → Nat} {T : List Int32} (q : LR σ w h cnt mk T) : ∀ (n i : Nat), i ≤ gE w h → gE w h < i + n → f_L_isTold_7 σ n (nI (cnP i (fun e => mk e = 0))) (nI i) = some (.inr (nI (cnP (gE w h) (fun e => mk e = 0)))) := by
  obtain ⟨z, p⟩ := q
  have h40 := gE_40 p.1.2.2
  intro n
  induction n with
  | zero => intro i a b; omega
  | succ n ih =>
    intro i a b
    rw [f_L_isTold_7.eq_2, q_edges p.1]
    simp only [ob]
    by_cases y : gE w h ≤ i
    · rw [if_pos ((nI_leI (by omega) (by omega)).mpr y), show i = gE w h by omega]
    · have hi : i < gE w h := by omega
      rw [if_neg (by rw [nI_leI (by omega) (by omega)]; exact y), nI_add, if_pos (ig (by omega) (by omega)), nI_clamp (by omega), p.2.2.1 i hi, z_edge z hi, nI_1 i]
      have hm := p.2.2.2.1 i
      have e1 : ((if nI (mk i) = nI 0 then some (nI 1) else some (nI 0)) : Option Int32) = some (nI (iv (mk i = 0))) := by
        by_cases x : mk i = 0
        · rw [if_pos (by rw [x]), iv_t x]
        · rw [if_neg (by rw [nI_eq (by omega) (by decide)]; exact x), iv_f x]
      rw [e1]
      simp only [ob]
      rw [nI_add, ← cnP_s, if_pos (ig (by omega) (by omega)), if_pos trivial]
      exact ih (i + 1) (by omega) (by omega)
theorem q_isTold61 {σ : vSt} {w h : Nat} {cnt : Nat → Int32} {mk : Nat → Nat} {T : List Int32} (q : LR σ w h cnt mk T) : ∀ (n i : Nat), i ≤ gC w h → gC w h < i + n → f_L_isTold_61 σ n (nI (cnP i (fun c => ¬ cnt c = -1))) (nI i) = some (.inr (nI (cnP (gC w h) (fun c => ¬ cnt c = -1)))) := by
  obtain ⟨z, p⟩ := q
  have h16 := gC_16 p.1.2.2
  intro n
  induction n with
  | zero => intro i a b; omega
  | succ n ih =>
    intro i a b
    rw [f_L_isTold_61.eq_2, q_cells p.1]
    by_cases y : gC w h ≤ i
    · rw [if_pos ((nI_leI (by omega) (by omega)).mpr y), show i = gC w h by omega]
    · have hi : i < gC w h := by omega
      rw [if_neg (by rw [nI_leI (by omega) (by omega)]; exact y), nI_add, if_pos (ig (by omega) (by omega)), nI_clamp (by omega), p.2.1 i hi, z_countOf z hi, nI_1 i]
      have e1 : ((if nI 0 ≤ cnt i then some (nI 1) else some (nI 0)) : Option Int32) = some (nI (iv (¬ cnt i = -1))) := by
        rcases cok_or (p.2.2.2.2 i) with e | ⟨k, hk, e⟩
        · rw [e, if_neg (by decide), iv_f (fun x => x rfl)]
        · rw [e, if_pos (nI_nn k (by omega)), iv_t (nI_nem1 (by omega))]
      rw [e1]
      simp only [ob]
      rw [nI_add, ← cnP_s, if_pos (ig (by omega) (by omega)), if_pos trivial]
      exact ih (i + 1) (by omega) (by omega)
theorem q_isTold {σ : vSt} {w h : Nat} {cnt : Nat → Int32} {mk : Nat → Nat} {T : List Int32} (q : LR σ w h cnt mk T) : f_L_isTold σ = some (nI 1) := by
  have p := q.2
  have z := q.1
  have h40 := gE_40 p.1.2.2
  have h16 := gC_16 p.1.2.2
  have e1 := q_isTold7 q 600 0 (Nat.zero_le _) (by omega)
  have e2 := q_isTold61 q 600 0 (Nat.zero_le _) (by omega)
  rw [cnP_0] at e1 e2
  unfold f_L_isTold
  rw [e1]
  simp only [ob]
  rw [e2]
  simp only [ob]
  rw [z_count3 z]
  simp only [ob]
  rw [if_pos trivial, z_count4 z]
  simp only [ob]
  rw [q_drawn p]
  simp only [ob]
  rw [if_pos trivial, z_count5 z]
  simp only [ob]
  rw [if_pos trivial, q_edges p.1]
  simp only [ob]
  rw [z_edgeBad z (nI_far (by omega) (Nat.le_refl _))]
  simp only [ob]
  rw [if_pos trivial, q_cells p.1, z_countOfBad z (nI_far (by omega) (Nat.le_refl _))]
  simp only [ob]
  rw [if_pos trivial]
theorem q_borders5 {w h : Nat} {cnt : Nat → Int32} {T : List Int32} {c : Nat} (hc : c < gC w h) : ∀ (n i : Nat) (σ : vSt) (mk : Nat → Nat), LR σ w h cnt mk T → i ≤ gE w h → gE w h < i + n → ∃ σ' mk', f_L_borders_5 (nI c) n (nI 1) (nI i) σ = some (nI 1, σ') ∧ LR σ' w h cnt mk' T := by
  intro n
  induction n with
  | zero => intro i σ mk q a b; omega
  | succ n ih =>
    intro i σ mk q a b
    have p := q.2
    have h40 := gE_40 p.1.2.2
    rw [f_L_borders_5.eq_2, q_edges p.1]
    simp only [ob]
    by_cases y : gE w h ≤ i
    · rw [if_pos ((nI_leI (by omega) (by omega)).mpr y)]
      exact ⟨σ, mk, rfl, q⟩
    · have hi : i < gE w h := by omega
      rw [if_neg (by rw [nI_leI (by omega) (by omega)]; exact y), q_isAround p.1 hi hc, nI_1 i]
      simp only [ob]
      by_cases x : i ∈ gArL w h c
      · rw [if_pos x, if_neg (show ¬ nI 1 = nI 0 by decide), if_neg (show ¬ nI 1 = nI 0 by decide), nI_add, if_pos (ig (by omega) (by omega)), nI_clamp (by omega), p.2.2.1 i hi]
        have hm := p.2.2.2.1 i
        have hgo : ∀ v, v < 3 → ∃ σ' mk', ((f_L_marks (nI i) (nI v) σ).bind fun x => match x with | (v22, σ23) => (if v22 = nI 0 then f_L_borders_5 (nI c) n (nI 0) (nI (i + 1)) σ23 else f_L_borders_5 (nI c) n (nI 1) (nI (i + 1)) σ23)) = some (nI 1, σ') ∧ LR σ' w h cnt mk' T := by
          intro v hv
          obtain ⟨σ1, e1, q1⟩ := q_marks q hi hv
          rw [e1]
          simp only [ob]
          rw [if_neg (show ¬ nI 1 = nI 0 by decide)]
          exact ih (i + 1) σ1 _ q1 (by omega) (by omega)
        by_cases m1 : mk i = 1
        · rw [if_pos (by rw [m1])]
          simp only [ob]
          exact hgo 2 (by decide)
        · rw [if_neg (by rw [nI_eq (by omega) (by decide)]; exact m1)]
          simp only [ob]
          exact hgo 1 (by decide)
      · rw [if_neg x, if_pos (show nI 0 = nI 0 from rfl)]
        exact ih (i + 1) σ mk q (by omega) (by omega)
theorem q_borders {σ : vSt} {w h : Nat} {cnt : Nat → Int32} {mk : Nat → Nat} {T : List Int32} (q : LR σ w h cnt mk T) {c : Nat} (hc : c < gC w h) : ∃ σ' mk', f_L_borders (nI c) σ = some (nI 1, σ') ∧ LR σ' w h cnt mk' T := by
  have h40 := gE_40 q.2.1.2.2
  obtain ⟨σ', mk', e, r⟩ := q_borders5 hc 600 0 σ mk q (Nat.zero_le _) (by omega)
  have e' : f_L_borders_5 (nI c) 600 (nI 1) (nI 0) σ = some (nI 1, σ') := e
  refine ⟨σ', mk', ?_, r⟩
  unfold f_L_borders
  rw [e']
  rfl
