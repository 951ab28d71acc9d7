/-! BOTH SIDES: count, digest -/
theorem k_counted {σ : vSt} {w h : Nat} {cnt : Nat → Int32} (g : GD σ w h cnt) : f_X1_countedCells σ = some (nI (cnP (gC w h) (fun c => ¬ cnt c = -1))) := by
  have h16 := gC_16 g.1.1
  have key : ∀ (n i : Nat), i ≤ gC w h → gC w h < i + n → f_X1_countedCells_4 σ n (nI (cnP i (fun c => ¬ cnt c = -1))) (nI i) = some (nI (cnP (gC w h) (fun c => ¬ cnt c = -1))) := by
    intro n
    induction n with
    | zero => intro i h1 h2; omega
    | succ n ih =>
      intro i h1 h2
      rw [f_X1_countedCells_4.eq_2, g.1.2.2.2.1]
      by_cases hi : gC w h ≤ i
      · rw [if_pos ((nI_leI (by omega) (by omega)).mpr hi), show i = gC w h by omega]
      · rw [if_neg (by rw [nI_leI (by omega) (by omega)]; exact hi), if_pos (ig (by omega) (by omega)), nI_clamp (by omega), nI_1 i, g.2.2.1 i (by omega)]
        by_cases hm : cnt i = -1
        · rw [if_pos hm, ← ih (i + 1) (by omega) (by omega), cnP_s, iv_f (fun q => q hm)]
          rfl
        · rw [if_neg hm, nI_1 (cnP i (fun c => ¬ cnt c = -1)), ← ih (i + 1) (by omega) (by omega), cnP_s, iv_t hm]
  unfold f_X1_countedCells
  have h0 := key 600 0 (Nat.zero_le _) (by omega)
  rw [cnP_0] at h0
  rw [h0]
  rfl
theorem k_count {σ : vSt} {x : Sn} {L : List Sn} {T : List Int32} (c : CR σ x L T) (ok : okS x) {k : Nat} (hk : k ≤ 15) : f_X6_count (nI k) σ = some (cntV x L T k) := by
  have h40 := gE_40 ok.1
  obtain ⟨_, a1, a2, a3, a4, a5⟩ := c.1.1
  have p0 := pc_cnP (y := gL σ 6 3) (E := gE x.w x.h) (P := fun e => x.mk e = 0) (by omega) (fun e => by rw [c.2.1.1.2, decide_eq_true_iff])
  have p1 := pc_cnP (y := gL σ 6 2) (E := gE x.w x.h) (P := fun e => x.mk e = 1) (by omega) (fun e => by rw [c.2.1.1.1, decide_eq_true_iff])
  have h6 : gI σ 20 6 = nI L.length := by obtain ⟨n, _, _, z, _⟩ := c.2.2.2.1; exact z
  unfold f_X6_count
  rw [if_neg (by rw [nI_ltI (by omega) (by decide)]; omega), if_pos ((nI_leI (by omega) (by decide)).mpr hk)]
  by_cases k6 : k < 6
  · rw [if_pos ((nI_ltI (by omega) (by decide)).mpr k6)]
    simp only [ob]
    rcases (show k = 0 ∨ k = 1 ∨ k = 2 ∨ k = 3 ∨ k = 4 ∨ k = 5 by omega) with rfl | rfl | rfl | rfl | rfl | rfl
    · rw [if_pos rfl, a1]; rfl
    · rw [if_neg (by decide), if_pos rfl, a2]; rfl
    · rw [if_neg (by decide), if_neg (by decide), if_pos rfl, a5]; rfl
    · rw [if_neg (by decide), if_neg (by decide), if_neg (by decide), if_pos rfl, bitCount_eq, p0]; rfl
    · rw [if_neg (by decide), if_neg (by decide), if_neg (by decide), if_neg (by decide), if_pos rfl, bitCount_eq, p1]; rfl
    · rw [if_neg (by decide), if_neg (by decide), if_neg (by decide), if_neg (by decide), if_neg (by decide), if_pos rfl, k_counted c.1]; rfl
  · rw [if_neg (by rw [nI_ltI (by omega) (by decide)]; exact k6)]
    by_cases k14 : k < 14
    · rw [if_neg (by rw [nI_leI (by decide) (by omega)]; omega), pk_sub (by omega), if_pos (ig (by omega) (by omega)), nI_clamp (by omega)]
      simp only [ob]
      rw [c.2.2.1 (k - 6) (by omega)]
      unfold cntV
      rw [if_neg (by omega), if_neg (by omega), if_neg (by omega), if_neg (by omega), if_neg (by omega), if_neg (by omega), if_pos k14]
    · rw [if_pos ((nI_leI (by decide) (by omega)).mpr (by omega))]
      simp only [ob]
      rcases (show k = 14 ∨ k = 15 by omega) with rfl | rfl
      · rw [if_neg (by decide), if_neg (by decide), if_neg (by decide), if_neg (by decide), if_neg (by decide), if_neg (by decide), if_neg (by decide), if_neg (by decide), if_neg (by decide), if_neg (by decide), if_neg (by decide), if_neg (by decide), if_neg (by decide), if_neg (by decide), if_pos rfl, h6]; rfl
      · rw [if_neg (by decide), if_neg (by decide), if_neg (by decide), if_neg (by decide), if_neg (by decide), if_neg (by decide), if_neg (by decide), if_neg (by decide), if_neg (by decide), if_neg (by decide), if_neg (by decide), if_neg (by decide), if_neg (by decide), if_neg (by decide), if_neg (by decide), c.2.2.2.2.1]; rfl
theorem s_count : Stp_20 Rl := by
  intro σ τ a _ _ ⟨x, L, T, c, r, o1, o2⟩
  rcases m_count r a with ⟨k, hk, rfl, e2⟩ | ⟨hn, e2⟩
  · exact ⟨_, k_count c r.2.1 hk, e2, x, L, T, c, r, o1, o2⟩
  · refine ⟨-2, ?_, e2, x, L, T, c, r, o1, o2⟩
    unfold f_X6_count
    rcases k_rng (a := a) (lo := 0) (M := 15) (by decide) (by decide) with ⟨v, _, hv, rfl, _, _⟩ | ⟨_, z⟩
    · exact absurd rfl (hn v hv)
    · by_cases z2 : a < nI 0
      · rw [if_pos z2]
      · rw [if_neg z2, if_neg (z.resolve_left z2)]
theorem fold_v {N : Nat} {f : Nat → Int32} (F : Nat → Int64 → Int32 → Option Int64) (hst : ∀ n i a, i < N → F (n + 1) a (nI i) = F n (mx a (f i)) (nI (i + 1))) (hen : ∀ n a, F (n + 1) a (nI N) = some a) : ∀ (n i : Nat) (a : Int64), i ≤ N → N < i + n → F n a (nI i) = some (fmx f i (N - i) a) := by
  intro n
  induction n with
  | zero => intro i a h1 h2; omega
  | succ n ih =>
    intro i a h1 h2
    by_cases hi : i = N
    · rw [hi, hen, Nat.sub_self]; rfl
    · rw [hst n i a (by omega), ih (i + 1) _ (by omega) (by omega), show N - i = (N - (i + 1)) + 1 by omega]
      rfl
theorem k_addHints {σ : vSt} {x : Sn} {L : List Sn} {T : List Int32} (c : CR σ x L T) (ok : okS x) (a : Int64) : ∃ σ', f_X6_addHints a σ = some (fmx (hintV x) 0 4 a, σ') ∧ CR σ' x L T := by
  have hd := ok.1
  unfold f_X6_addHints
  rw [k_fits hd c.2.1]
  simp only [ob]
  have go : ∀ (v5 v1 : Int32) (σ6 : vSt), (∀ i, i < 4 → ((if v5 = nI 0 then (if v1 = nI 0 then some (-3 : Int32) else some (-1 : Int32)) else ((f_X6_foundPart (nI i) σ6).bind fun v26 => some v26)) : Option Int32) = some (hintV x i)) → f_X6_addHints_42 v5 v1 σ6 600 a (nI 0) = some (fmx (hintV x) 0 4 a) := by
    intro v5 v1 σ6 hq
    refine fold_v (N := 4) (f := hintV x) (f_X6_addHints_42 v5 v1 σ6) (fun n i a hi => ?_) (fun n a => ?_) 600 0 a (by decide) (by decide)
    · rw [f_X6_addHints_42.eq_2, if_neg (by rw [nI_ltI (by decide) (by omega)]; omega), hq i hi]
      simp only [ob]
      rw [nI_1 i]
      rfl
    · rw [f_X6_addHints_42.eq_2, if_pos (by decide)]
  by_cases hf : fitA x.w x.h x.cnt x.mk
  · rw [if_neg (by rw [pI_0]; exact fun z => z hf)]
    obtain ⟨σ1, F1, ⟨a1, a2⟩ | ⟨rr, e, p, a1, a2, v10, v11, v12⟩⟩ := k_findNext (b := 6) (Or.inl rfl) ok.2.1 c.1 c.2.1 (l := 7) (by decide)
    · rw [a2]
      simp only [ob]
      rw [if_pos trivial]
      simp only [ob]
      rw [go (nI 0) (pI (fitA x.w x.h x.cnt x.mk)) σ1 (fun i hi => by
        rw [if_pos rfl, if_neg (by rw [pI_0]; exact fun z => z hf), hintV_n hf a1])]
      exact ⟨σ1, rfl, c.sc (FN_sc F1)⟩
    · rw [a2]
      simp only [ob]
      rw [if_neg (by decide)]
      simp only [ob]
      rw [go (nI 1) (pI (fitA x.w x.h x.cnt x.mk)) σ1 (fun i hi => by
        rw [if_neg (by decide), k_foundPart (show i ≤ 3 by omega) (dN_ok hd a1).1 v10 v11 v12, hintV_y hf a1]
        rfl)]
      exact ⟨σ1, rfl, c.sc (FN_sc F1)⟩
  · rw [if_pos (pI_0.mpr hf)]
    simp only [ob]
    rw [go (nI 0) (pI (fitA x.w x.h x.cnt x.mk)) σ (fun i hi => by
      rw [if_pos rfl, if_pos (pI_0.mpr hf), hintV_f hf])]
    exact ⟨σ, rfl, c⟩
theorem k_digest {σ : vSt} {x : Sn} {L : List Sn} {T : List Int32} (c : CR σ x L T) (ok : okS x) : ∃ σ', f_X6_digest σ = some (digV x L T, σ') ∧ CR σ' x L T := by
  have hd := ok.1
  have h40 := gE_40 hd
  have h16 := gC_16 hd
  unfold f_X6_digest digV
  have d1 : f_X6_digest_6 σ 600 (157 : Int64) (nI 0) = some (fmx (cntV x L T) 0 16 157) := by
    refine fold_v (N := 16) (f := cntV x L T) (f_X6_digest_6 σ) (fun n i a hi => ?_) (fun n a => ?_) 600 0 157 (by decide) (by decide)
    · rw [f_X6_digest_6.eq_2, if_neg (by rw [nI_ltI (by decide) (by omega)]; omega), k_count c ok (show i ≤ 15 by omega)]
      simp only [ob]
      rw [nI_1 i]; rfl
    · rw [f_X6_digest_6.eq_2, if_pos (by decide)]
  rw [d1]
  simp only [ob]
  generalize fmx (cntV x L T) 0 16 157 = h1
  have d2 : f_X6_digest_33 σ 600 h1 (nI 0) = some (fmx x.cnt 0 (gC x.w x.h) h1) := by
    refine fold_v (N := gC x.w x.h) (f := x.cnt) (f_X6_digest_33 σ) (fun n i a hi => ?_) (fun n a => ?_) 600 0 h1 (Nat.zero_le _) (by omega)
    · rw [f_X6_digest_33.eq_2, c.1.1.2.2.2.1, if_neg (by rw [nI_leI (by omega) (by omega)]; omega), if_pos (ig (by omega) (by omega)), nI_clamp (by omega), c.1.2.2.1 i (by omega)]
      simp only [ob]
      rw [nI_1 i]; rfl
    · rw [f_X6_digest_33.eq_2, c.1.1.2.2.2.1, if_pos (Int32.le_refl _)]
  rw [d2]
  simp only [ob]
  generalize fmx x.cnt 0 (gC x.w x.h) h1 = h2
  have d3 : f_X6_digest_69 σ 600 h2 (nI 0) = some (fmx (fun e => nI (x.mk e)) 0 (gE x.w x.h) h2) := by
    refine fold_v (N := gE x.w x.h) (f := fun e => nI (x.mk e)) (f_X6_digest_69 σ) (fun n i a hi => ?_) (fun n a => ?_) 600 0 h2 (Nat.zero_le _) (by omega)
    · rw [f_X6_digest_69.eq_2, c.1.1.2.2.2.2.2, if_neg (by rw [nI_leI (by omega) (by omega)]; omega), k_markOf hd c.2.1.1 hi (ok.2.1 i)]
      simp only [ob]
      rw [nI_1 i]; rfl
    · rw [f_X6_digest_69.eq_2, c.1.1.2.2.2.2.2, if_pos (Int32.le_refl _)]
  rw [d3]
  simp only [ob]
  generalize fmx (fun e => nI (x.mk e)) 0 (gE x.w x.h) h2 = h3
  have d4 : f_X6_digest_104 σ 600 h3 (nI 0) = some (fmx (fun i => misV x (nI i)) 0 5 h3) := by
    refine fold_v (N := 5) (f := fun i => misV x (nI i)) (f_X6_digest_104 σ) (fun n i a hi => ?_) (fun n a => ?_) 600 0 h3 (by decide) (by decide)
    · rw [f_X6_digest_104.eq_2, if_neg (by rw [nI_ltI (by decide) (by omega)]; omega), k_misfit c ok]
      simp only [ob]
      rw [nI_1 i]; rfl
    · rw [f_X6_digest_104.eq_2, if_pos (by decide)]
  rw [d4]
  simp only [ob]
  generalize fmx (fun i => misV x (nI i)) 0 5 h3 = h4
  obtain ⟨σ1, e1, c1⟩ := k_addHints c ok h4
  rw [e1]
  simp only [ob]
  generalize fmx (hintV x) 0 4 h4 = h5
  obtain ⟨σ2, e2, f2, v5, v4, v7, _, _⟩ := k_run c1.1 c1.2.1.1 (l := 2) (by decide)
  have c2 := c1.sc (FS_sc f2)
  rw [show nI 2 = nI 2 from rfl, e2]
  simp only [ob]
  rw [k_nodesTold v5 v7]
  simp only [ob]
  obtain ⟨σ3, e3, f3⟩ := k_greatestGrade c2.1
  have c3 := c2.sc (FGr_sc f3)
  rw [e3]
  simp only [ob]
  rw [v4]
  have t3 := c3.2.2.2.2
  have hT := t3.2.1
  have d5 : ∀ h6 : Int64, f_X6_digest_193 σ3 600 h6 (nI 0) = some (fmx (txV T) 0 T.length h6) := by
    intro h6
    refine fold_v (N := T.length) (f := txV T) (f_X6_digest_193 σ3) (fun n i a hi => ?_) (fun n a => ?_) 600 0 h6 (Nat.zero_le _) (by omega)
    · rw [f_X6_digest_193.eq_2, t3.1, if_neg (by rw [nI_leI (by omega) (by omega)]; omega), if_pos (ig (by omega) (by omega)), nI_clamp (by omega), t3.2.2 i _ (tx_get hi)]
      simp only [ob]
      rw [nI_1 i]; rfl
    · rw [f_X6_digest_193.eq_2, t3.1, if_pos (Int32.le_refl _)]
  rw [d5]
  exact ⟨σ3, rfl, c3⟩
theorem s_digest : Stp_21 Rl := by
  intro σ τ _ _ _ ⟨x, L, T, c, r, o1, o2⟩
  obtain ⟨τ', e2, r2⟩ := m_digest r
  obtain ⟨σ', e1, c1⟩ := k_digest c r.2.1
  exact ⟨_, σ', τ', e1, e2, x, L, T, c1, r2, o1, o2⟩
