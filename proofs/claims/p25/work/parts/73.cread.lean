/-! BOTH SIDES: misfit, hint, way, the search, the grade -/
theorem pI_ite (P : Prop) : (if pI P = nI 0 then some (nI 0) else some (nI 1) : Option Int32) = some (pI P) := by
  by_cases h : P
  · rw [if_neg (by rw [pI_0]; exact fun z => z h), pI_t h]
  · rw [if_pos (pI_0.mpr h), pI_f h]
theorem k_least8 {σ : vSt} {b w h : Nat} {cnt : Nat → Int32} {mk : Nat → Nat} (hd : dim w h) (r : RG σ b w h cnt mk) : f_X6_leastOf (gL σ b 8) = some (tI (lst (gE w h) (badR w h cnt mk))) := by
  have h40 := gE_40 hd
  by_cases h99 : lst (gE w h) (badR w h cnt mk) = 99
  · rw [(badR8 r).mpr h99, leastOf_0, h99]; rfl
  · rcases lst_or (gE w h) (badR w h cnt mk) with ⟨j, a, b2, c, d⟩ | ⟨_, d⟩
    · rw [d, tI_n (by omega)]
      have hb : ∀ e, bt (gL σ b 8) e = true ↔ e < gE w h ∧ lst (gE w h) (badR w h cnt mk) ≠ 99 ∧ wayP w h mk (lst (gE w h) (badR w h cnt mk)) e := r.1
      rw [d] at hb
      refine leastOf_eq ((hb j).mpr ⟨a, by omega, b2.1.1, CnI.rf⟩) (fun l hl => ?_)
      cases q : bt (gL σ b 8) l with
      | false => rfl
      | true => exact absurd (badR_way ((hb l).mp q).2.2 b2) (c l hl)
    · exact absurd d h99
theorem k_misfit {σ : vSt} {x : Sn} {L : List Sn} {T : List Int32} (c : CR σ x L T) (ok : okS x) (a : Int32) : f_X6_misfit a σ = some (misV x a) := by
  have hd := ok.1
  have h16 := gC_16 hd
  have h25 := gK_25 hd
  unfold f_X6_misfit misV
  by_cases a0 : a = nI 0
  · rw [if_pos a0, if_pos a0, k_leastI (by omega) (fun k => (c.2.1.2.1 k).1)]; rfl
  rw [if_neg a0, if_neg a0]
  by_cases a1 : a = nI 1
  · rw [if_pos a1, if_pos a1, k_leastI (by omega) (fun k => (c.2.1.2.2.1 k).1)]; rfl
  rw [if_neg a1, if_neg a1]
  by_cases a2 : a = nI 2
  · rw [if_pos a2, if_pos a2, k_least8 hd c.2.1.2.2.2]; rfl
  rw [if_neg a2, if_neg a2]
  by_cases a3 : a = nI 3
  · rw [if_pos a3, if_pos a3, k_fits hd c.2.1]
    simp only [ob]
    exact pI_ite _
  rw [if_neg a3, if_neg a3]
  by_cases a4 : a = nI 4
  · rw [if_pos a4, if_pos a4, k_finished hd c.2.1]
    simp only [ob]
    exact pI_ite _
  rw [if_neg a4, if_neg a4]
theorem s_misfit : Stp_13 Rl := by
  intro σ τ a _ _ ⟨x, L, T, c, r, o1, o2⟩
  obtain ⟨τ', e2, r2, _⟩ := m_misfit r a
  exact ⟨_, τ', k_misfit c r.2.1 a, e2, x, L, T, c, r2, o1, o2⟩
theorem hintV_f {x : Sn} {k : Nat} (h : ¬ fitA x.w x.h x.cnt x.mk) : hintV x k = -3 := by unfold hintV; exact if_neg h
theorem hintV_n {x : Sn} {k : Nat} (h : fitA x.w x.h x.cnt x.mk) (e : dN x.w x.h x.cnt x.mk 7 = none) : hintV x k = -1 := by
  unfold hintV
  rw [if_pos h, e]
theorem hintV_y {x : Sn} {k r e p : Nat} (h : fitA x.w x.h x.cnt x.mk) (e1 : dN x.w x.h x.cnt x.mk 7 = some (r, e, p)) : hintV x k = if k = 0 then nI r else if k = 1 then nI e else if k = 2 then nI (bec r) else tI p := by
  unfold hintV
  rw [if_pos h, e1]
theorem k_foundPart {σ : vSt} {r e p k : Nat} (hk : k ≤ 3) (hr : r < 8) (v10 : gI σ 6 10 = nI r) (v11 : gI σ 6 11 = nI e) (v12 : gI σ 6 12 = tI p) : f_X6_foundPart (nI k) σ = some (if k = 0 then nI r else if k = 1 then nI e else if k = 2 then nI (bec r) else tI p) := by
  unfold f_X6_foundPart
  rw [v10, v11, v12]
  rcases (show k = 0 ∨ k = 1 ∨ k = 2 ∨ k = 3 by omega) with rfl | rfl | rfl | rfl
  · rfl
  · rfl
  · rw [if_neg (by decide), if_neg (by decide), if_pos rfl, k_becomes hr]; rfl
  · rfl
theorem s_hint : Stp_14 Rl := by
  intro σ τ a _ _ ⟨x, L, T, c, r, o1, o2⟩
  have hd := r.2.1.1
  unfold f_X6_hint
  rcases m_hint r a with ⟨k, τ', hk, rfl, e2, r2, _⟩ | ⟨hn, e2⟩
  · rw [if_neg (by rw [nI_ltI (by omega) (by decide)]; omega), if_pos ((nI_leI (by omega) (by decide)).mpr hk), k_fits hd c.2.1]
    simp only [ob]
    by_cases hf : fitA x.w x.h x.cnt x.mk
    · rw [if_neg (by rw [pI_0]; exact fun z => z hf)]
      obtain ⟨σ1, F1, ⟨a1, a2⟩ | ⟨rr, e, p, a1, a2, v10, v11, v12⟩⟩ := k_findNext (b := 6) (Or.inl rfl) r.2.1.2.1 c.1 c.2.1 (l := 7) (by decide)
      · rw [a2]
        simp only [ob]
        rw [if_pos trivial]
        exact ⟨-1, σ1, τ', rfl, by rw [e2, hintV_n hf a1], x, L, T, c.sc (FN_sc F1), r2, o1, o2⟩
      · rw [a2]
        simp only [ob]
        rw [if_neg (by decide), k_foundPart hk (dN_ok hd a1).1 v10 v11 v12]
        simp only [ob]
        exact ⟨_, σ1, τ', rfl, by rw [e2, hintV_y hf a1], x, L, T, c.sc (FN_sc F1), r2, o1, o2⟩
    · rw [if_pos (pI_0.mpr hf)]
      exact ⟨-3, σ, τ', rfl, by rw [e2, hintV_f hf], x, L, T, c, r2, o1, o2⟩
  · refine ⟨-2, σ, τ, ?_, e2, x, L, T, c, r, o1, o2⟩
    rcases k_rng (a := a) (lo := 0) (M := 3) (by decide) (by decide) with ⟨v, _, hv, rfl, _, _⟩ | ⟨_, z⟩
    · exact absurd rfl (hn v hv)
    · by_cases z2 : a < nI 0
      · rw [if_pos z2]
      · rw [if_neg z2, if_neg (z.resolve_left z2)]
theorem s_way : Stp_15 Rl := by
  intro σ τ a b _ ⟨x, L, T, c, r, o1, o2⟩
  have hd := r.2.1.1
  have h40 := gE_40 hd
  unfold f_X6_way
  rcases m_way r a b with ⟨e, k, τ', he, hk, rfl, rfl, e2, r2⟩ | ⟨hn, e2⟩
  · have hE : f_X1_hasEdge (nI e) σ = some (nI 1) := by
      rcases k_hasEdge c.1.1 (nI e) with ⟨e', _, _, q⟩ | ⟨q, _⟩
      · exact q
      · exact absurd rfl (q e he)
    rw [hE]
    simp only [ob]
    rw [if_neg (by decide), if_neg (by rw [nI_ltI (by omega) (by decide)]; omega), if_pos ((nI_leI (by omega) (by decide)).mpr (by omega))]
    obtain ⟨v, e1, hv⟩ := k_way1 c.1 c.2.1.1 he
    rw [show o_lshl (1 : Int64) (nI e) = b1 e from rfl, e1]
    simp only [ob]
    refine ⟨wayV x e k, τ', ?_, e2, x, L, T, c, r2, o1, o2⟩
    unfold wayV
    by_cases hm : x.mk e = 1
    · have hself : bt v e = true := (hv e).mpr ⟨he, hm, hm, CnI.rf⟩
      have hb : ∀ i, bt v i = true ↔ i < gE x.w x.h ∧ wayP x.w x.h x.mk e i := fun i => by
        rw [hv i]; exact ⟨fun q => ⟨q.1, q.2.2⟩, fun q => ⟨q.1, hm, q.2⟩⟩
      rw [if_pos hm, if_neg (by
        rw [lg0]
        intro z
        rw [z, bt_0] at hself; cases hself)]
      rcases (show k = 0 ∨ k = 1 ∨ k = 2 by omega) with rfl | rfl | rfl
      · rw [if_pos rfl, bitCount_eq, pc_cnP (by omega) hb]; rfl
      · rw [if_neg (by decide), if_pos rfl, k_leastL (by omega) hb]
        simp only [ob]
        rw [tI_n (fun z => (lst_99 (by omega)).mp z e he ⟨hm, CnI.rf⟩)]
        rfl
      · rw [if_neg (by decide), if_neg (by decide), k_isRing c.1 c.2.1.2.2.1 he hm hb]
        simp only [ob]
        exact pI_ite _
    · have hz : v = 0 := bt_eq0.mpr (fun i => by
        cases q : bt v i with
        | false => rfl
        | true => exact absurd ((hv i).mp q).2.1 hm)
      rw [if_neg hm, if_pos ((lg0 _).mpr hz)]
  · refine ⟨-2, τ, ?_, e2, x, L, T, c, r, o1, o2⟩
    rcases k_hasEdge c.1.1 a with ⟨k, hk, rfl, e1⟩ | ⟨_, e1⟩
    · rw [e1]
      simp only [ob]
      rw [if_neg (by decide)]
      rcases k_rng (a := b) (lo := 0) (M := 2) (by decide) (by decide) with ⟨v, _, hv, rfl, _, _⟩ | ⟨_, z⟩
      · rcases hn with q | q
        · exact absurd rfl (q k hk)
        · exact absurd rfl (q v (by omega))
      · by_cases z2 : b < nI 0
        · rw [if_pos z2]
        · rw [if_neg z2, if_neg (z.resolve_left z2)]
    · rw [e1]
      simp only [ob]
      rw [if_pos trivial]
theorem FS_sc {σ σ' : vSt} (f : FS σ σ') : FG Wa Wb σ σ' := f.mono (fun q j x => by unfold WSi at x; unfold Wa; omega) (fun q j x => by unfold WSl at x; unfold Wb; omega)
theorem s_solutions : Stp_16 Rl := by
  intro σ τ a _ _ ⟨x, L, T, c, r, o1, o2⟩
  unfold f_X6_solutions
  rcases m_solutions r a with ⟨l, τ', h1, h2, rfl, e2, r2, _⟩ | ⟨hn, e2⟩
  · rw [if_neg (by rw [nI_ltI (by omega) (by decide)]; omega), if_pos ((nI_leI (by omega) (by decide)).mpr h2)]
    obtain ⟨σ', e1, f, v5, v4, v7, _, _⟩ := k_run c.1 c.2.1.1 (l := l) (by omega)
    rw [e1]
    simp only [ob]
    exact ⟨_, σ', τ', by rw [v4], e2, x, L, T, c.sc (FS_sc f), r2, o1, o2⟩
  · refine ⟨-2, σ, τ, ?_, e2, x, L, T, c, r, o1, o2⟩
    rcases k_rng (a := a) (lo := 1) (M := 20) (by decide) (by decide) with ⟨v, hv1, hv, rfl, _, _⟩ | ⟨_, z⟩
    · exact absurd rfl (hn v hv1 hv)
    · by_cases z2 : a < nI 1
      · rw [if_pos z2]
      · rw [if_neg z2, if_neg (z.resolve_left z2)]
theorem k_nodesTold {σ : vSt} {x : Sn} {l : Nat} (v5 : gI σ 15 5 = nI (SR x.w x.h x.cnt x.mk l).1) (v7 : gI σ 15 7 = nI (SR x.w x.h x.cnt x.mk l).2.2.1) : f_X3_nodesTold σ = some (nodV x l) := by
  have h1 : (SR x.w x.h x.cnt x.mk l).2.2.1 ≤ 1 := sr_x _ _ _ _ _
  unfold f_X3_nodesTold nodV
  rw [v5, v7]
  by_cases z : (SR x.w x.h x.cnt x.mk l).2.2.1 = 0
  · rw [if_pos (by rw [z]), if_pos z]
  · rw [if_neg (by rw [nI_eq (by omega) (by decide)]; exact z), if_neg z]
theorem s_nodes : Stp_17 Rl := by
  intro σ τ a _ _ ⟨x, L, T, c, r, o1, o2⟩
  unfold f_X6_nodes
  rcases m_nodes r a with ⟨l, τ', h1, h2, rfl, e2, r2, _⟩ | ⟨hn, e2⟩
  · rw [if_neg (by rw [nI_ltI (by omega) (by decide)]; omega), if_pos ((nI_leI (by omega) (by decide)).mpr h2)]
    obtain ⟨σ', e1, f, v5, v4, v7, _, _⟩ := k_run c.1 c.2.1.1 (l := l) (by omega)
    rw [e1]
    simp only [ob]
    rw [k_nodesTold v5 v7]
    simp only [ob]
    exact ⟨_, σ', τ', rfl, e2, x, L, T, c.sc (FS_sc f), r2, o1, o2⟩
  · refine ⟨-2, σ, τ, ?_, e2, x, L, T, c, r, o1, o2⟩
    rcases k_rng (a := a) (lo := 1) (M := 20) (by decide) (by decide) with ⟨v, hv1, hv, rfl, _, _⟩ | ⟨_, z⟩
    · exact absurd rfl (hn v hv1 hv)
    · by_cases z2 : a < nI 1
      · rw [if_pos z2]
      · rw [if_neg z2, if_neg (z.resolve_left z2)]
theorem s_solved : Stp_18 Rl := by
  intro σ τ a _ _ ⟨x, L, T, c, r, o1, o2⟩
  have hd := r.2.1.1
  have h40 := gE_40 hd
  unfold f_X6_solved
  rcases m_solved r a with ⟨e, τ', he, rfl, e2, r2⟩ | ⟨hn, e2⟩
  · have hE : f_X1_hasEdge (nI e) σ = some (nI 1) := by
      rcases k_hasEdge c.1.1 (nI e) with ⟨e', _, _, q⟩ | ⟨q, _⟩
      · exact q
      · exact absurd rfl (q e he)
    rw [hE]
    simp only [ob]
    rw [if_neg (by decide)]
    obtain ⟨σ', e1, f, v5, v4, v7, h200, v6⟩ := k_run c.1 c.2.1.1 (l := 1) (by decide)
    rw [e1]
    simp only [ob]
    refine ⟨solV x e, σ', τ', ?_, e2, x, L, T, c.sc (FS_sc f), r2, o1, o2⟩
    rw [v4]
    unfold solV
    by_cases z : (SR x.w x.h x.cnt x.mk 1).2.1 = 0
    · rw [if_pos (by rw [z]), if_pos z]
    · rw [if_neg (by rw [nI_eq (by omega) (by decide)]; exact z), if_neg z]
      have h6 := v6 z e
      by_cases q : (SR x.w x.h x.cnt x.mk 1).2.2.2 e = 1
      · rw [if_neg (by rw [lsr_test (by omega), h6]; simp [he, q]), if_pos q]
      · rw [if_pos (by rw [lsr_test (by omega), h6]; simp [q]), if_neg q]
  · refine ⟨-2, σ, τ, ?_, e2, x, L, T, c, r, o1, o2⟩
    rcases k_hasEdge c.1.1 a with ⟨k, hk, rfl, e1⟩ | ⟨_, e1⟩
    · exact absurd rfl (hn k hk)
    · rw [e1]
      simp only [ob]
      rw [if_pos trivial]
theorem FGr_sc {σ σ' : vSt} (f : FG WGi WGl σ σ') : FG Wa Wb σ σ' := f.mono (fun q j x => by unfold WGi at x; unfold Wa; omega) (fun q j x => by unfold WGl at x; unfold Wb; omega)
theorem s_grade : Stp_19 Rl := by
  intro σ τ _ _ _ ⟨x, L, T, c, r, o1, o2⟩
  obtain ⟨τ', e2, r2, _⟩ := m_gradeR r
  obtain ⟨σ', e1, f⟩ := k_greatestGrade c.1
  unfold f_X6_grade
  rw [e1]
  exact ⟨_, σ', τ', rfl, e2, x, L, T, c.sc (FGr_sc f), r2, o1, o2⟩
