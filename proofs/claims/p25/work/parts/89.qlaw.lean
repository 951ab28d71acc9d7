/-! THE LAW, WHOLE -/
theorem PG.setC {σ : vSt} {w h : Nat} {cnt : Nat → Int32} {mk : Nat → Nat} (p : PG σ w h cnt mk) {c : Nat} {b : Int32} (hc : c < gC w h) (hb : cok b) : PG (sI σ 30 (2 + c) b) w h (fun k => if k = c then b else cnt k) mk := by
  have h16 := gC_16 p.1.2.2
  refine ⟨⟨?_, ?_, p.1.2.2⟩, fun k hk => ?_, fun k hk => ?_, p.2.2.2.1, fun k => ?_⟩
  · rw [sI_ne _ _ (Or.inr (by omega))]; exact p.1.1
  · rw [sI_ne _ _ (Or.inr (by omega))]; exact p.1.2.1
  · show _ = if k = c then b else cnt k
    by_cases y : k = c
    · rw [if_pos y, y, sI_same]
    · rw [if_neg y, sI_ne _ _ (Or.inr (by omega))]; exact p.2.1 k hk
  · rw [sI_ne _ _ (Or.inr (by omega))]; exact p.2.2.1 k hk
  · show cok (if k = c then b else cnt k)
    by_cases y : k = c
    · rw [if_pos y]; exact hb
    · rw [if_neg y]; exact p.2.2.2.2 k
theorem cok_d {d : Nat} (hd : d < 5) : cok (dI d) := by
  cases d with
  | zero => exact Or.inl rfl
  | succ d => rw [dI_s]; exact cok_lo (by omega)
theorem q_law117 (L : Nat) (xs : Nat → Int32) : ∀ (n k : Nat) (σ : vSt) (w h : Nat) (cnt : Nat → Int32) (mk : Nat → Nat) (T : List Int32), LR σ w h cnt mk T → k ≤ 22 → 22 < k + n → ∃ σ' w' h' cnt' mk' T', f_L_law_117 L xs n (nI k) σ = some (.inr σ') ∧ LR σ' w' h' cnt' mk' T' := by
  intro n
  induction n with
  | zero => intro k σ w h cnt mk T q a b; omega
  | succ n ih =>
    intro k σ w h cnt mk T q a b
    have p := q.2
    have z := q.1
    have hd := p.1.2.2
    have h40 := gE_40 hd
    have h16 := gC_16 hd
    have hp := gE_pos hd
    rw [f_L_law_117.eq_2]
    by_cases y : 22 ≤ k
    · rw [if_pos ((nI_leI (by decide) (by omega)).mpr y)]
      exact ⟨σ, w, h, cnt, mk, T, rfl, q⟩
    · rw [if_neg (by rw [nI_leI (by decide) (by omega)]; exact y), nI_mul, nI_add (a := 2 * k), if_pos (show 0 ≤ (nI (2 * k)).toInt by rw [nI_toInt (by omega)]; omega), nI_1 k]
      simp only [ob]
      generalize v_cell L xs (nI (2 * k)) = x
      generalize hy : v_cell L xs (nI (2 * k + 1)) = x2
      have g1 : 0 ≤ (nI (2 * k + 1)).toInt := by rw [nI_toInt (by omega)]; omega
      obtain ⟨a9, ha9, ea9⟩ := q_low x (n := 9) (by decide) (by decide)
      rw [ea9]
      simp only [ob]
      have hgo : ∀ (σ1 : vSt) (w1 h1 : Nat) (cnt1 : Nat → Int32) (mk1 : Nat → Nat) (T1 : List Int32), LR σ1 w1 h1 cnt1 mk1 T1 → ∃ σ' w' h' cnt' mk' T', ((some (nI 1, σ1) : Option (Int32 × vSt)).bind fun φ62 => match φ62 with | (v59, σ60) => (if v59 = nI 0 then some (.inl ((nI 0), σ60)) else ((f_L_isTold σ60).bind fun v155 => (if v155 = nI 0 then some (.inl ((nI 0), σ60)) else ((f_L_areWays σ60).bind fun (v159, σ160) => (if v159 = nI 0 then some (.inl ((nI 0), σ160)) else f_L_law_117 L xs n (nI (k + 1)) σ160)))))) = some (.inr σ') ∧ LR σ' w' h' cnt' mk' T' := by
        intro σ1 w1 h1 cnt1 mk1 T1 q1
        simp only [ob]
        rw [if_neg (show ¬ nI 1 = nI 0 by decide), q_isTold q1]
        simp only [ob]
        rw [if_neg (show ¬ nI 1 = nI 0 by decide)]
        obtain ⟨σ2, e2, q2⟩ := q_areWays q1
        rw [e2]
        simp only [ob]
        rw [if_neg (show ¬ nI 1 = nI 0 by decide)]
        exact ih (k + 1) σ2 _ _ _ _ _ q2 (by omega) (by omega)
      rcases (show a9 = 0 ∨ a9 = 1 ∨ (a9 = 2 ∨ a9 = 3 ∨ a9 = 4) ∨ a9 = 5 ∨ (a9 = 6 ∨ a9 = 7 ∨ a9 = 8) by omega) with r | r | r | r | r
      · subst r
        rw [if_pos (show nI 0 = nI 0 from rfl), if_pos g1]
        obtain ⟨σ1, w1, h1, cnt1, T1, e1, q1⟩ := q_sets q (x >>> (nI 4 &&& 31)) x2
        rw [e1]
        simp only [ob]
        rw [if_neg (show ¬ nI 1 = nI 0 by decide), q_areAt q1]
        simp only [ob]
        rw [if_neg (show ¬ nI 1 = nI 0 by decide)]
        exact hgo σ1 _ _ _ _ _ q1
      · subst r
        rw [if_neg (show ¬ nI 1 = nI 0 by decide), if_pos (show nI 1 = nI 1 from rfl), q_cells p.1]
        obtain ⟨c, hc, ec⟩ := q_low (x >>> (nI 4 &&& 31)) hp.2 (show gC w h < 2 ^ 31 by omega)
        obtain ⟨d, hd5, ed⟩ := q_low (x >>> (nI 8 &&& 31)) (n := 5) (by decide) (by decide)
        rw [ec]
        simp only [ob]
        rw [nI_add (a := 2), if_pos (ig (by omega) (by omega)), nI_clamp (by omega), p.2.1 c hc, ed]
        simp only [ob]
        rw [if_pos (ig (by omega) (by omega)), if_pos (ig (by omega) (by omega)), dI_0, sI_same]
        have p1 := p.setC hc (cok_d hd5)
        obtain ⟨σ1, e1, z1⟩ := z_setCount (z.s30 (i := 30) (j := 2 + c) (v := dI d) (by decide)) hc (cok_d hd5)
        rw [e1]
        simp only [ob]
        rw [if_pos trivial]
        exact hgo _ _ _ _ _ _ ⟨z1.mg, p1.mg⟩
      · obtain ⟨c, hc, ec⟩ := q_low (x >>> (nI 4 &&& 31)) hp.2 (show gC w h < 2 ^ 31 by omega)
        obtain ⟨σ1, mk1, e1, q1⟩ := q_borders q hc
        rcases r with r | r | r
        · subst r
          rw [if_neg (show ¬ nI 2 = nI 0 by decide), if_neg (show ¬ nI 2 = nI 1 by decide), if_pos (show nI 2 = nI 2 from rfl), q_cells p.1, ec]
          simp only [ob]
          rw [e1]
          exact hgo σ1 _ _ _ _ _ q1
        · subst r
          rw [if_neg (show ¬ nI 3 = nI 0 by decide), if_neg (show ¬ nI 3 = nI 1 by decide), if_neg (show ¬ nI 3 = nI 2 by decide), if_pos (show nI 3 = nI 3 from rfl), q_cells p.1, ec]
          simp only [ob]
          rw [e1]
          exact hgo σ1 _ _ _ _ _ q1
        · subst r
          rw [if_neg (show ¬ nI 4 = nI 0 by decide), if_neg (show ¬ nI 4 = nI 1 by decide), if_neg (show ¬ nI 4 = nI 2 by decide), if_neg (show ¬ nI 4 = nI 3 by decide), if_pos (show nI 4 = nI 4 from rfl), q_cells p.1, ec]
          simp only [ob]
          rw [e1]
          exact hgo σ1 _ _ _ _ _ q1
      · subst r
        rw [if_neg (show ¬ nI 5 = nI 0 by decide), if_neg (show ¬ nI 5 = nI 1 by decide), if_neg (show ¬ nI 5 = nI 2 by decide), if_neg (show ¬ nI 5 = nI 3 by decide), if_neg (show ¬ nI 5 = nI 4 by decide), if_pos (show nI 5 = nI 5 from rfl)]
        obtain ⟨d, hd4, ed⟩ := q_low (x >>> (nI 4 &&& 31)) (n := 4) (by decide) (by decide)
        rw [ed]
        simp only [ob]
        by_cases c0 : d = 0
        · rw [if_pos (show nI d = nI 0 by rw [c0]), q_edges p.1]
          simp only [ob]
          rw [q_drawn p]
          simp only [ob]
          have l1 := cnP_le (gE w h) (fun e => mk e = 1)
          have ls := cn_sum p.2.2.2.1 (gE w h)
          rw [pk_sub l1, pk_sub (by omega), show gE w h - (gE w h - cnP (gE w h) (fun e => mk e = 1)) = cnP (gE w h) (fun e => mk e = 1) by omega]
          obtain ⟨σ1, e1, c1⟩ := q_law338 p (cnP (gE w h) (fun e => mk e = 1)) 600 0 σ (Nat.zero_le _) (by omega) ⟨F30.rf, fun _ _ => rfl, fun e he => absurd he (Nat.not_lt_zero e), fun e _ h2 => p.2.2.1 e h2⟩
          have e1' : f_L_law_338x119 600 (nI (cnP (gE w h) (fun e => mk e = 1))) (nI 0) σ = some (nI (cnP (gE w h) (fun e => mk e = 1) + cnP (gE w h) (fun e => mk e = 2)), σ1) := e1
          rw [e1']
          simp only [ob]
          obtain ⟨σ2, e2, z2⟩ := z_wipe (z.f30 c1.1)
          rw [e2, pk_sub (show cnP (gE w h) (fun e => mk e = 0) ≤ gE w h from cnP_le _ _), show gE w h - cnP (gE w h) (fun e => mk e = 0) = cnP (gE w h) (fun e => mk e = 1) + cnP (gE w h) (fun e => mk e = 2) by omega]
          simp only [ob]
          rw [if_pos trivial]
          have p1 : PG σ1 w h cnt z0 := ⟨⟨(c1.2.1 0 (by decide)).trans p.1.1, (c1.2.1 1 (by decide)).trans p.1.2.1, hd⟩, fun k hk => (c1.2.1 (2 + k) (by omega)).trans (p.2.1 k hk), fun e he => c1.2.2.1 e he, fun e => by show 0 < 3; decide, p.2.2.2.2⟩
          exact hgo _ _ _ _ _ _ ⟨z2.mg, p1.mg⟩
        · rw [if_neg (by rw [nI_eq (by omega) (by decide)]; exact c0)]
          exact hgo σ _ _ _ _ _ q
      · have hdef : ∃ σ' w' h' cnt' mk' T', ((((f_L_edges σ).bind fun v138 => ((f_L_low (x >>> ((nI 4) &&& 31)) v138).bind fun v140 => ((f_L_low (x >>> ((nI 10) &&& 31)) (nI 3)).bind fun v142 => ((f_L_marks v140 v142 σ).bind fun (v144, σ145) => some (v144, σ145))))) : Option (Int32 × vSt)).bind fun φ62 => match φ62 with | (v59, σ60) => (if v59 = nI 0 then some (.inl ((nI 0), σ60)) else ((f_L_isTold σ60).bind fun v155 => (if v155 = nI 0 then some (.inl ((nI 0), σ60)) else ((f_L_areWays σ60).bind fun (v159, σ160) => (if v159 = nI 0 then some (.inl ((nI 0), σ160)) else f_L_law_117 L xs n (nI (k + 1)) σ160)))))) = some (.inr σ') ∧ LR σ' w' h' cnt' mk' T' := by
          rw [q_edges p.1]
          simp only [ob]
          obtain ⟨e, he, ee⟩ := q_low (x >>> (nI 4 &&& 31)) hp.1 (show gE w h < 2 ^ 31 by omega)
          obtain ⟨v, hv, ev⟩ := q_low (x >>> (nI 10 &&& 31)) (n := 3) (by decide) (by decide)
          rw [ee]
          simp only [ob]
          rw [ev]
          simp only [ob]
          obtain ⟨σ1, e1, q1⟩ := q_marks q he hv
          rw [e1]
          exact hgo σ1 _ _ _ _ _ q1
        rcases r with r | r | r
        · subst r
          rw [if_neg (show ¬ nI 6 = nI 0 by decide), if_neg (show ¬ nI 6 = nI 1 by decide), if_neg (show ¬ nI 6 = nI 2 by decide), if_neg (show ¬ nI 6 = nI 3 by decide), if_neg (show ¬ nI 6 = nI 4 by decide), if_neg (show ¬ nI 6 = nI 5 by decide)]
          exact hdef
        · subst r
          rw [if_neg (show ¬ nI 7 = nI 0 by decide), if_neg (show ¬ nI 7 = nI 1 by decide), if_neg (show ¬ nI 7 = nI 2 by decide), if_neg (show ¬ nI 7 = nI 3 by decide), if_neg (show ¬ nI 7 = nI 4 by decide), if_neg (show ¬ nI 7 = nI 5 by decide)]
          exact hdef
        · subst r
          rw [if_neg (show ¬ nI 8 = nI 0 by decide), if_neg (show ¬ nI 8 = nI 1 by decide), if_neg (show ¬ nI 8 = nI 2 by decide), if_neg (show ¬ nI 8 = nI 3 by decide), if_neg (show ¬ nI 8 = nI 4 by decide), if_neg (show ¬ nI 8 = nI 5 by decide)]
          exact hdef
theorem q_law23 : ∀ (n i : Nat) (σ σ0 : vSt), i ≤ 16 → 16 < i + n → F30 σ0 σ → (∀ j, j < 2 ∨ 18 ≤ j → gI σ 30 j = gI σ0 30 j) → (∀ k, k < i → gI σ 30 (2 + k) = -1) → ∃ σ', f_L_law_23 n (nI i) σ = some σ' ∧ F30 σ0 σ' ∧ (∀ j, j < 2 ∨ 18 ≤ j → gI σ' 30 j = gI σ0 30 j) ∧ ∀ k, k < 16 → gI σ' 30 (2 + k) = -1 := by
  intro n
  induction n with
  | zero => intro i σ σ0 a b; omega
  | succ n ih =>
    intro i σ σ0 a b f g hc
    rw [f_L_law_23.eq_2]
    by_cases z : 16 ≤ i
    · rw [if_pos ((nI_leI (by decide) (by omega)).mpr z)]
      exact ⟨σ, rfl, f, g, fun k hk => hc k (by omega)⟩
    · rw [if_neg (by rw [nI_leI (by decide) (by omega)]; exact z), nI_add, if_pos (ig (by omega) (by omega)), nI_clamp (by omega), nI_1 i]
      refine ih (i + 1) _ σ0 (by omega) (by omega) f.wr (fun j hj => ?_) (fun k hk => ?_)
      · rw [sI_ne _ _ (Or.inr (by omega))]; exact g j hj
      · by_cases c : k = i
        · rw [c, sI_same]
        · rw [sI_ne _ _ (Or.inr (by omega))]; exact hc k (by omega)
theorem cn_z0 (n : Nat) : cnP n (fun e => z0 e = 0) = n := by
  have h := cn_sum (mk := z0) (fun e => by show 0 < 3; decide) n
  have h1 : cnP n (fun e => z0 e = 1) = 0 := Nat.eq_zero_of_not_pos (fun q => by
    obtain ⟨e, _, he⟩ := cnP_pos.mp q
    exact absurd he (show ¬ (0 : Nat) = 1 by decide))
  have h2 : cnP n (fun e => z0 e = 2) = 0 := Nat.eq_zero_of_not_pos (fun q => by
    obtain ⟨e, _, he⟩ := cnP_pos.mp q
    exact absurd he (show ¬ (0 : Nat) = 2 by decide))
  omega
theorem q_law (L : Nat) (xs : Nat → Int32) {σ : vSt} (hs : PS σ) (h0 : ∀ j, gI σ 30 j = nI 0) : ∃ σ', f_L_law L xs σ = some (nI 1, σ') := by
  unfold f_L_law
  simp only [ob]
  obtain ⟨σ1, e1, f1, g1, c1⟩ := q_law23 600 0 (sI (sI σ 30 0 (nI 3)) 30 1 (nI 3)) (sI (sI σ 30 0 (nI 3)) 30 1 (nI 3)) (Nat.zero_le _) (by omega) F30.rf (fun _ _ => rfl) (fun k hk => absurd hk (Nat.not_lt_zero k))
  have e1' : f_L_law_23 600 (nI 0) (sI (sI σ 30 0 (nI 3)) 30 1 (nI 3)) = some σ1 := e1
  rw [e1']
  simp only [ob]
  have hs1 : PS σ1 := hs.fg (fun q j hq => by rw [f1.1 q j (by omega), sI_ne _ _ (Or.inl (by omega)), sI_ne _ _ (Or.inl (by omega))]) (fun q j hq => by unfold gL; rw [f1.2]; rfl)
  have p1 : PG σ1 3 3 (fun _ => -1) z0 := by
    refine ⟨⟨?_, ?_, dim_33⟩, fun k hk => c1 k (by have := gC_16 dim_33; omega), fun e he => ?_, fun e => by show 0 < 3; decide, fun k => Or.inl rfl⟩
    · rw [g1 0 (Or.inl (by decide)), sI_ne _ _ (Or.inr (by decide)), sI_same]
    · rw [g1 1 (Or.inl (by decide)), sI_same]
    · rw [g1 (18 + e) (Or.inr (by omega)), sI_ne _ _ (Or.inr (by omega)), sI_ne _ _ (Or.inr (by omega)), h0]; rfl
  obtain ⟨σ2, e2, z2⟩ := z_undo hs1
  rw [e2]
  simp only [ob]
  rw [if_pos trivial]
  have q3 : LR (mergeS 30 σ2 σ1) 3 3 (fun _ => -1) z0 [] := ⟨z2.mg, p1.mg⟩
  generalize mergeS 30 σ2 σ1 = σ3 at q3 ⊢
  obtain ⟨σ4, e4, z4⟩ := z_setCountBad q3.1 (a := nI 9) (b := nI 0) (Or.inl (nI_far (by decide) (by decide)))
  rw [e4]
  simp only [ob]
  rw [if_pos trivial]
  have q5 : LR (mergeS 30 σ4 σ3) 3 3 (fun _ => -1) z0 [] := ⟨z4.mg, q3.2.mg⟩
  generalize mergeS 30 σ4 σ3 = σ5 at q5 ⊢
  obtain ⟨σ6, e6, z6⟩ := z_setCountBad q5.1 (a := nI 0) (b := nI 4) (Or.inr (by unfold cok; decide))
  rw [e6]
  simp only [ob]
  rw [if_pos trivial]
  have q7 : LR (mergeS 30 σ6 σ5) 3 3 (fun _ => -1) z0 [] := ⟨z6.mg, q5.2.mg⟩
  generalize mergeS 30 σ6 σ5 = σ7 at q7 ⊢
  obtain ⟨σ8, e8, z8⟩ := z_setPuzzleNo q7.1 (p := 0) rfl
  rw [e8]
  simp only [ob]
  rw [if_pos trivial]
  have q9 : LR (mergeS 30 σ8 σ7) 3 3 (fun _ => -1) z0 [] := ⟨z8.mg, q7.2.mg⟩
  generalize mergeS 30 σ8 σ7 = σ9 at q9 ⊢
  obtain ⟨σ10, e10, z10⟩ := z_wipe q9.1
  rw [e10, cn_z0, pk_sub (Nat.le_refl _), Nat.sub_self]
  simp only [ob]
  rw [if_pos trivial]
  have q11 : LR (mergeS 30 σ10 σ9) 3 3 (fun _ => -1) z0 [] := ⟨z10.mg, q9.2.mg⟩
  generalize mergeS 30 σ10 σ9 = σ11 at q11 ⊢
  rw [q_isTold q11]
  simp only [ob]
  rw [if_neg (show ¬ nI 1 = nI 0 by decide), q_areAt q11]
  simp only [ob]
  rw [if_neg (show ¬ nI 1 = nI 0 by decide)]
  obtain ⟨σ12, e12, q12⟩ := q_areWays q11
  rw [e12]
  simp only [ob]
  rw [if_neg (show ¬ nI 1 = nI 0 by decide)]
  obtain ⟨σ13, w, h, cnt, mk, T, e13, q13⟩ := q_law117 L xs 600 0 σ12 _ _ _ _ _ q12 (Nat.zero_le _) (by omega)
  have e13' : f_L_law_117 L xs 600 (nI 0) σ12 = some (.inr σ13) := e13
  rw [e13']
  simp only [ob]
  rw [z_countBad q13.1 (a := nI 16) (fun k hk => nI_far (by decide) (Nat.le_refl _) k (by omega))]
  simp only [ob]
  rw [if_pos trivial]
  obtain ⟨σ14, e14, z14⟩ := z_hintBad q13.1 (a := nI 4) (fun k hk => nI_far (by decide) (Nat.le_refl _) k (by omega))
  rw [e14]
  simp only [ob]
  rw [if_pos trivial]
  obtain ⟨σ15, e15, _⟩ := z_deduceAllBad (z14.mg (σ0 := σ13)) (a := nI 8) (fun k hk => nI_far (by decide) (Nat.le_refl _) k (by omega))
  rw [e15]
  simp only [ob]
  rw [if_pos trivial]
  exact ⟨_, rfl⟩
theorem p_all (L : Nat) (xs : Nat → Int32) : ∃ (σ1 σ2 σ3 : vSt) (e1 : Int64), f_X1_lay (3 : Int32) (3 : Int32) st_0 = some σ1 ∧ f_X1_allEdges σ1 = some e1 ∧ f_X0_begin 6 (0 : Int64) e1 (mergeS 6 σ1 zC) = some σ2 ∧ f_L_law L xs (mergeS 8 σ2 zC) = some (1, σ3) := by
  obtain ⟨σ1, σ2, e1, h1, h2, h3, hs⟩ := z_start
  obtain ⟨σ3, h4⟩ := q_law L xs hs (fun j => by rw [mg_I, if_neg (by decide)]; exact zC_0 (by decide))
  exact ⟨σ1, σ2, σ3, e1, h1, h2, h3, h4⟩
