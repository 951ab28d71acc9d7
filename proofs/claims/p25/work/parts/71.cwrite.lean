/-! BOTH SIDES: mark, wipe, deduce, undo -/
theorem cnP_cut {P : Nat → Prop} {E : Nat} : ∀ m, cnP (E + m) (fun e => e < E ∧ P e) = cnP E P := by
  intro m
  induction m with
  | zero => exact cnP_c (fun e he => ⟨fun q => q.2, fun q => ⟨he, q⟩⟩)
  | succ m ih =>
    rw [show E + (m + 1) = (E + m) + 1 by omega, cnP_s, ih, iv_f (fun q => by omega), Nat.add_zero]
theorem pc_cnP {y : Int64} {E : Nat} {P : Nat → Prop} (hE : E ≤ 64) (hy : ∀ e, bt y e = true ↔ e < E ∧ P e) : pc y = cnP E P := by
  rw [← cnP_cut (P := P) (E := E) (64 - E), show E + (64 - E) = 64 by omega]
  unfold pc cnP
  refine List.countP_congr (fun e _ => ?_)
  exact (hy e).trans (@decide_eq_true_iff (e < E ∧ P e) (Classical.propDecidable _)).symm
theorem s_mark : Stp_5 Rl := by
  intro σ τ a b _ ⟨x, L, T, c, r, o1, o2⟩
  have h40 := gE_40 r.2.1.1
  unfold f_X6_mark
  rcases m_mark r a b with ⟨e, v, τ', he, hv, rfl, rfl, e2, r2⟩ | ⟨hn, e2⟩
  · have hE : f_X1_hasEdge (nI e) σ = some (nI 1) := by
      rcases k_hasEdge c.1.1 (nI e) with ⟨e', _, _, q⟩ | ⟨q, _⟩
      · exact q
      · exact absurd rfl (q e he)
    rw [hE]
    simp only [ob]
    rw [if_neg (by decide), if_neg (by rw [nI_ltI (by omega) (by decide)]; omega), if_pos ((nI_leI (by omega) (by decide)).mpr (by omega))]
    obtain ⟨σ1, e1, c1, _⟩ := c.keep
    rw [e1]
    simp only [ob]
    rw [k_markOf r.2.1.1 c1.2.1.1 he (r.2.1.2.1 e)]
    simp only [ob]
    have m1 := c1.2.1.1
    have hd : ∃ y, ((if nI v = nI 1 then some ((gL σ1 6 2) ||| o_lshl (1 : Int64) (nI e)) else some ((gL σ1 6 2) &&& (o_lshl (1 : Int64) (nI e) ^^^ (-1 : Int64)))) : Option Int64) = some y ∧ ∀ i, bt y i = decide (i < gE x.w x.h ∧ um x.mk e v i = 1) := by
      by_cases z : v = 1
      · rw [if_pos (by rw [z])]
        refine ⟨_, rfl, fun i => ?_⟩
        show bt (gL σ1 6 2 ||| b1 e) i = _
        rw [bt_set (by omega), m1.1]
        by_cases q : i = e
        · rw [if_pos q, q, um_e]; simp [he, z]
        · rw [if_neg q, um_n q]
      · rw [if_neg (by rw [nI_eq (by omega) (by decide)]; exact z)]
        refine ⟨_, rfl, fun i => ?_⟩
        show bt (gL σ1 6 2 &&& (b1 e ^^^ (-1 : Int64))) i = _
        rw [bt_clr (by omega), m1.1]
        by_cases q : i = e
        · rw [if_pos q, q, um_e]; simp [z]
        · rw [if_neg q, um_n q]
    have ho : ∃ y, ((if nI v = nI 0 then some ((gL σ1 6 3) ||| o_lshl (1 : Int64) (nI e)) else some ((gL σ1 6 3) &&& (o_lshl (1 : Int64) (nI e) ^^^ (-1 : Int64)))) : Option Int64) = some y ∧ ∀ i, bt y i = decide (i < gE x.w x.h ∧ um x.mk e v i = 0) := by
      by_cases z : v = 0
      · rw [if_pos (by rw [z])]
        refine ⟨_, rfl, fun i => ?_⟩
        show bt (gL σ1 6 3 ||| b1 e) i = _
        rw [bt_set (by omega), m1.2]
        by_cases q : i = e
        · rw [if_pos q, q, um_e]; simp [he, z]
        · rw [if_neg q, um_n q]
      · rw [if_neg (by rw [nI_eq (by omega) (by decide)]; exact z)]
        refine ⟨_, rfl, fun i => ?_⟩
        show bt (gL σ1 6 3 &&& (b1 e ^^^ (-1 : Int64))) i = _
        rw [bt_clr (by omega), m1.2]
        by_cases q : i = e
        · rw [if_pos q, q, um_e]; simp [z]
        · rw [if_neg q, um_n q]
    obtain ⟨y1, ey1, hy1⟩ := hd
    obtain ⟨y2, ey2, hy2⟩ := ho
    rw [ey1]
    simp only [ob]
    rw [ey2]
    simp only [ob]
    obtain ⟨σ2, e3, c3, _⟩ := CR_begin (x := smk x e v) (L := kp L x) (T := T) c1.1 c1.2.2.1 c1.2.2.2.1 c1.2.2.2.2 hy1 hy2
    rw [e3]
    exact ⟨nI (x.mk e), σ2, τ', rfl, e2, smk x e v, kp L x, T, c3, r2, o1.kp r.2.2.1.2.1 r.2.1, o2⟩
  · refine ⟨-2, σ, τ, ?_, e2, x, L, T, c, r, o1, o2⟩
    rcases k_hasEdge c.1.1 a with ⟨k, hk, rfl, e1⟩ | ⟨_, e1⟩
    · rw [e1]
      simp only [ob]
      rw [if_neg (by decide)]
      rcases k_rng (a := b) (lo := 0) (M := 2) (by decide) (by decide) with ⟨v, _, hv, rfl, _, _⟩ | ⟨_, z⟩
      · rcases hn with q | q
        · exact absurd rfl (q k hk)
        · exact absurd rfl (q v (by omega))
      · by_cases z2 : b < nI 0
        · rw [if_pos z2]
        · rw [if_neg z2, if_neg (z.resolve_left z2)]
    · rw [e1]
      simp only [ob]
      rw [if_pos trivial]
theorem k_forget2 : ∀ (n i : Nat) (σ : vSt), i ≤ 8 → 8 < i + n → (∀ j, j < i → gI σ 9 j = nI 0) → ∃ σ', f_X6_forgetMade_2 n (nI i) σ = some σ' ∧ Fz (fun q _ => q = 9) σ σ' ∧ ∀ j, j < 8 → gI σ' 9 j = nI 0 := by
  intro n
  induction n with
  | zero => intro i σ h1 h2; omega
  | succ n ih =>
    intro i σ h1 h2 hz
    rw [f_X6_forgetMade_2.eq_2]
    by_cases hi : 8 ≤ i
    · rw [if_pos ((nI_leI (by decide) (by omega)).mpr hi)]
      exact ⟨σ, rfl, Fz.rf, fun j hj => hz j (by omega)⟩
    · rw [if_neg (by rw [nI_leI (by decide) (by omega)]; exact hi), if_pos (ig (by omega) (by omega)), nI_clamp (by omega), nI_1 i]
      obtain ⟨σ', e1, f1, z1⟩ := ih (i + 1) (sI σ 9 i (nI 0)) (by omega) (by omega) (fun j hj => by
        by_cases a : j = i
        · rw [a, sI_same]
        · rw [sI_ne _ _ (Or.inr a)]; exact hz j (by omega))
      have f0 : Fz (fun q _ => q = 9) σ (sI σ 9 i (nI 0)) := Fz.wr (W := fun q _ => q = 9) Fz.rf rfl
      exact ⟨σ', e1, f0.tr f1, z1⟩
theorem k_forget (σ : vSt) : ∃ σ', f_X6_forgetMade σ = some σ' ∧ Fz (fun q _ => q = 9) σ σ' ∧ ∀ j, j < 8 → gI σ' 9 j = nI 0 := by
  unfold f_X6_forgetMade
  obtain ⟨σ', e, f, z⟩ := k_forget2 600 0 σ (by decide) (by decide) (fun j hj => absurd hj (Nat.not_lt_zero j))
  rw [e]
  exact ⟨σ', rfl, f, z⟩
/-- all edges made available, counted deductions begin with 0 -/
theorem k_clean {σ : vSt} {w h : Nat} {cnt : Nat → Int32} {L : List Sn} {T : List Int32} (g : GD σ w h cnt) (hh : HC σ L) (t : TC σ T) {β : Type} (Z : vSt → Option β) : ∃ σ', ((f_X6_forgetMade σ).bind fun σ6 => (f_X1_allEdges σ6).bind fun v8 => (f_X0_begin 6 (0 : Int64) v8 σ6).bind Z) = Z σ' ∧ CR σ' (mkS w h cnt z0 (fun _ => nI 0)) L T := by
  obtain ⟨σ1, e1, f1, z1⟩ := k_forget σ
  rw [e1]
  simp only [ob]
  have hL : ∀ q j, gL σ1 q j = gL σ q j := fun q j => by unfold gL; rw [f1.2]
  have kf : FG (fun q _ => q = 9) (fun _ _ => False) σ σ1 := ⟨f1.1, fun q j _ => hL q j⟩
  have g1 : GD σ1 w h cnt := g.fg kf (fun q j z => by have : q = 9 := z; omega) (fun q j z => z.elim)
  obtain ⟨v, e2, hv⟩ := k_allEdges g1.1
  rw [e2]
  simp only [ob]
  obtain ⟨σ2, e3, c3, _⟩ := CR_begin (x := mkS w h cnt z0 (fun _ => nI 0)) (L := L) (T := T) g1 z1 (hh.fg (fun q j a b => f1.1 q j (show ¬ q = 9 by omega)) (fun q j _ _ => hL q j)) (TC_fg t (fun q j z => f1.1 q j (show ¬ q = 9 by omega))) (bt_z0 w h) hv
  rw [e3]
  exact ⟨σ2, rfl, c3⟩
theorem s_wipe : Stp_6 Rl := by
  intro σ τ _ _ _ ⟨x, L, T, c, r, o1, o2⟩
  have h40 := gE_40 r.2.1.1
  obtain ⟨τ', e2, r2⟩ := m_wipe r
  unfold f_X6_wipe
  obtain ⟨σ1, e1, c1, _⟩ := c.keep
  rw [e1]
  simp only [ob]
  rw [bitCount_eq, pc_cnP (E := gE x.w x.h) (P := fun e => x.mk e = 0) (by omega) (fun e => by rw [c1.2.1.1.2, decide_eq_true_iff]), c1.1.1.2.2.2.2.2]
  simp only [ob]
  obtain ⟨σ2, e3, c3⟩ := k_clean (L := kp L x) (T := T) c1.1 c1.2.2.2.1 c1.2.2.2.2 (fun σ10 => some (nI (gE x.w x.h) - nI (cnP (gE x.w x.h) (fun e => x.mk e = 0)), σ10))
  rw [e3]
  exact ⟨_, σ2, τ', rfl, e2, wip x, kp L x, T, c3, r2, o1.kp r.2.2.1.2.1 r.2.1, o2⟩
theorem FN_sc {σ σ' : vSt} (f : FN 6 σ σ') : FG Wa Wb σ σ' := f.mono (fun q j x => by unfold WNi at x; unfold Wa; omega) (fun q j x => by unfold WNl at x; unfold Wb; omega)
theorem k_makeFoundX {σ : vSt} {x : Sn} {L : List Sn} {T : List Int32} (c : CR σ x L T) (hno : ¬ hasR x.w x.h x.mk) {r e : Nat} (v10 : gI σ 6 10 = nI r) (v11 : gI σ 6 11 = nI e) (hr : r < 8) (he : e < gE x.w x.h) (h0 : x.mk e = 0) : ∃ σ', f_X6_makeFound σ = some σ' ∧ CR σ' (dd x r e) L T ∧ gI σ' 6 10 = nI r := by
  unfold f_X6_makeFound
  rw [v10]
  simp only [ob]
  rw [if_neg (by rw [nI_ltI (by omega) (by decide)]; omega), if_neg (by rw [nI_leI (by decide) (by omega)]; omega), if_pos (ig (by omega) (by omega)), if_pos (ig (by omega) (by omega)), nI_clamp (by omega)]
  simp only [ob]
  have kf : FG (fun q _ => q = 9) (fun _ _ => False) σ (sI σ 9 r (gI σ 9 r + nI 1)) := FG.wI (WI := fun q _ => q = 9) FG.rf rfl
  have g1 : GD (sI σ 9 r (gI σ 9 r + nI 1)) x.w x.h x.cnt := c.1.fg kf (fun q j z => by have : q = 9 := z; omega) (fun q j z => z.elim)
  have s1 : SY (sI σ 9 r (gI σ 9 r + nI 1)) 6 x.w x.h x.cnt x.mk := SY_of c.2.1 (fun j _ _ _ => kf.1 6 j (show ¬ 6 = 9 by decide)) (fun j _ => kf.1 7 j (show ¬ 7 = 9 by decide)) (fun j _ => rfl)
  obtain ⟨σ2, e2, f2, s2⟩ := k_makeFound (b := 6) (by decide) g1 s1 hno (by rw [kf.1 6 10 (show ¬ 6 = 9 by decide)]; exact v10) (by rw [kf.1 6 11 (show ¬ 6 = 9 by decide)]; exact v11) hr he h0
  rw [e2]
  simp only [ob]
  refine ⟨σ2, rfl, ⟨g1.fb (by decide) f2, s2, fun k hk => ?_, c.2.2.2.1.fg (fun q j a b => ?_) (fun q j a b => ?_), TC_fg c.2.2.2.2 (fun q j z => ?_)⟩, ?_⟩
  · show _ = if k = r then x.us r + nI 1 else x.us k
    rw [f2.1 9 k (by decide) (by decide), sI_if]
    by_cases z : k = r
    · rw [if_pos ⟨rfl, z⟩, if_pos z, c.2.2.1 r hr]
    · rw [if_neg (fun q => z q.2), if_neg z]; exact c.2.2.1 k hk
  · rw [f2.1 q j (by omega) (by omega), sI_ne _ _ (Or.inl (by omega))]
  · rw [f2.2.1 q j (by omega)]; rfl
  · rw [f2.1 q j (by omega) (by omega), sI_ne _ _ (Or.inl (by omega))]
  · rw [f2.2.2 10 (by decide), sI_ne _ _ (Or.inl (by decide))]; exact v10
theorem s_deduce : Stp_7 Rl := by
  intro σ τ _ _ _ ⟨x, L, T, c, r, o1, o2⟩
  have hd := r.2.1.1
  obtain ⟨τ', hm⟩ := m_deduce r
  unfold f_X6_deduce
  rw [k_fits hd c.2.1]
  simp only [ob]
  by_cases hf : fitA x.w x.h x.cnt x.mk
  · rw [if_neg (by rw [pI_0]; exact fun z => z hf)]
    obtain ⟨σ1, e1, c1, _⟩ := c.keep
    rw [e1]
    simp only [ob]
    have o1' := o1.kp r.2.2.1.2.1 r.2.1
    obtain ⟨σ2, F2, ⟨a1, a2⟩ | ⟨rr, e, p, a1, a2, v10, v11, _⟩⟩ := k_findNext (b := 6) (Or.inl rfl) r.2.1.2.1 c1.1 c1.2.1 (l := 7) (by decide)
    · rw [a2]
      simp only [ob]
      rw [if_pos trivial]
      rcases hm with ⟨b1, _⟩ | ⟨_, b2, b3, b4⟩ | ⟨_, r', e', p', b2, _⟩
      · exact absurd hf b1
      · exact ⟨-1, σ2, τ', rfl, b3, x, kp L x, T, c1.sc (FN_sc F2), b4, o1', o2⟩
      · rw [a1] at b2; cases b2
    · rw [a2]
      simp only [ob]
      rw [if_neg (by decide)]
      obtain ⟨y0, y1, y2⟩ := dN_ok hd a1
      obtain ⟨σ3, e3, c3, v3⟩ := k_makeFoundX (c1.sc (FN_sc F2)) (dN_fit a1).2 v10 v11 y0 y1 y2
      rw [e3]
      simp only [ob]
      rcases hm with ⟨b1, _⟩ | ⟨_, b2, _⟩ | ⟨_, r', e', p', b2, b3, b4⟩
      · exact absurd hf b1
      · rw [a1] at b2; cases b2
      · rw [a1] at b2
        have hq := Option.some.inj b2
        obtain ⟨q1, q2⟩ := Prod.mk.inj hq
        obtain ⟨q2, q3⟩ := Prod.mk.inj q2
        subst q1; subst q2
        exact ⟨nI rr, σ3, τ', by rw [v3], b3, dd x rr e, kp L x, T, c3, b4, o1', o2⟩
  · rw [if_pos (pI_0.mpr hf)]
    rcases hm with ⟨_, b3, b4⟩ | ⟨b1, _⟩ | ⟨b1, _⟩
    · exact ⟨-3, σ, τ', rfl, b3, x, L, T, c, b4, o1, o2⟩
    · exact absurd b1 hf
    · exact absurd b1 hf
theorem k_da47 {l : Nat} (hl : l < 8) {L : List Sn} {T : List Int32} : ∀ (n i m : Nat) (x : Sn) (σ : vSt), i + opn x.w x.h x.mk ≤ 40 → 40 < i + n → opn x.w x.h x.mk < m → CR σ x L T → okS x → ∃ σ', f_X6_deduceAll_47 (nI l) n (nI i) σ = some (nI (dA l m x i).1, σ') ∧ CR σ' (dA l m x i).2 L T := by
  intro n
  induction n with
  | zero => intro i m x σ h1 h2; omega
  | succ n ih =>
    intro i m x σ h1 h2 hm c ok
    have hd := ok.1
    obtain ⟨m, rfl⟩ : ∃ m', m = m' + 1 := ⟨m - 1, by omega⟩
    rw [f_X6_deduceAll_47.eq_2]
    by_cases hi : 40 ≤ i
    · rw [if_pos ((nI_leI (by decide) (by omega)).mpr hi)]
      have : dN x.w x.h x.cnt x.mk l = none := by
        cases q : dN x.w x.h x.cnt x.mk l with
        | none => rfl
        | some y =>
          obtain ⟨r, e, p⟩ := y
          obtain ⟨_, y1, y2⟩ := dN_ok hd q
          have : 0 < opn x.w x.h x.mk := cnP_pos.mpr ⟨e, y1, y2⟩
          omega
      rw [dA_n this]
      exact ⟨σ, rfl, c⟩
    · rw [if_neg (by rw [nI_leI (by decide) (by omega)]; exact hi), nI_1 i]
      obtain ⟨σ1, F1, ⟨a1, a2⟩ | ⟨r, e, p, a1, a2, v10, v11, _⟩⟩ := k_findNext (b := 6) (Or.inl rfl) ok.2.1 c.1 c.2.1 hl
      · rw [a2]
        simp only [ob]
        rw [if_pos trivial, dA_n a1]
        exact ⟨σ1, rfl, c.sc (FN_sc F1)⟩
      · rw [a2]
        simp only [ob]
        rw [if_neg (by decide)]
        obtain ⟨y0, y1, y2⟩ := dN_ok hd a1
        obtain ⟨σ2, e2, c2, _⟩ := k_makeFoundX (c.sc (FN_sc F1)) (dN_fit a1).2 v10 v11 y0 y1 y2
        rw [e2]
        simp only [ob]
        have ho : opn x.w x.h (um x.mk e (bec r)) < opn x.w x.h x.mk := opn_um y1 y2 (bec_3 r).2
        obtain ⟨σ3, e3, c3⟩ := ih (i + 1) m (dd x r e) σ2 (show i + 1 + opn x.w x.h (um x.mk e (bec r)) ≤ 40 by omega) (by omega) (show opn x.w x.h (um x.mk e (bec r)) < m by omega) c2 (okS_dd ok y1)
        rw [dA_y a1]
        exact ⟨σ3, e3, c3⟩
theorem m_daN {τ : vSt} {a : Int32} (hn : ∀ l, l ≤ 7 → a ≠ nI l) : f_X7_deduceAll a τ = some (-2, τ) := by
  unfold f_X7_deduceAll
  rcases m_in (a := a) (lo := 0) (M := 7) (by decide) (by decide) with ⟨l, _, hl, rfl, _⟩ | ⟨_, e⟩
  · exact absurd rfl (hn l hl)
  · rw [e]
    simp only [ob]
    rfl
theorem s_deduceAll : Stp_8 Rl := by
  intro σ τ a _ _ ⟨x, L, T, c, r, o1, o2⟩
  have hd := r.2.1.1
  unfold f_X6_deduceAll
  rcases k_rng (a := a) (lo := 0) (M := 7) (by decide) (by decide) with ⟨l, _, hl, rfl, t1, t2⟩ | ⟨hn, t⟩
  · rw [if_neg t1, if_pos t2, k_fits hd c.2.1]
    simp only [ob]
    obtain ⟨τ', hm⟩ := m_deduceAll r (l := l) (by omega)
    by_cases hf : fitA x.w x.h x.cnt x.mk
    · rw [if_neg (by rw [pI_0]; exact fun z => z hf)]
      obtain ⟨σ1, e1, c1, _⟩ := c.keep
      rw [e1]
      simp only [ob]
      have ho := opn_le hd x.mk
      obtain ⟨σ2, e2, c2⟩ := k_da47 (l := l) (by omega) 600 0 41 x σ1 (by omega) (by decide) (by omega) c1 r.2.1
      rw [e2]
      rcases hm with ⟨b1, _⟩ | ⟨_, b2, b3⟩
      · exact absurd hf b1
      · exact ⟨_, σ2, τ', rfl, b2, _, kp L x, T, c2, b3, o1.kp r.2.2.1.2.1 r.2.1, o2⟩
    · rw [if_pos (pI_0.mpr hf)]
      rcases hm with ⟨_, b2, b3⟩ | ⟨b1, _⟩
      · exact ⟨-3, σ, τ', rfl, b2, x, L, T, c, b3, o1, o2⟩
      · exact absurd b1 hf
  · refine ⟨-2, σ, τ, ?_, m_daN (fun l hl => hn l (Nat.zero_le _) hl), x, L, T, c, r, o1, o2⟩
    by_cases z : a < nI 0
    · rw [if_pos z]
    · rw [if_neg z, if_neg (t.resolve_left z)]
theorem s_undo : Stp_9 Rl := by
  intro σ τ _ _ _ ⟨x, L, T, c, r, o1, o2⟩
  have h8 := r.2.2.1.2.1
  unfold f_X6_undo
  have h6 : gI σ 20 6 = nI L.length := by obtain ⟨n, _, _, z, _⟩ := c.2.2.2.1; exact z
  rw [h6]
  rcases m_undoR r o1 with ⟨a, e2⟩ | ⟨a, τ', y, hy, e2, r2⟩
  · rw [if_pos (by rw [a])]
    exact ⟨-3, σ, τ, rfl, e2, x, L, T, c, r, o1, o2⟩
  · rw [if_neg (by rw [nI_eq (by omega) (by decide)]; omega)]
    obtain ⟨σ', e1, f, g, s, u, hh⟩ := k_restore c.2.2.2.1 a hy (o1 _ y hy)
    rw [e1]
    simp only [ob]
    have hv : gI σ' 20 6 = nI (L.length - 1) := by
      obtain ⟨n, _, _, z, _⟩ := hh
      rw [z, List.length_take]; congr 1; omega
    exact ⟨_, σ', τ', by rw [hv], e2, y, L.take (L.length - 1), T, ⟨g, s, u, hh, TC_fg c.2.2.2.2 (fun q j z => f.1 q j (fun z2 => by unfold WUi at z2; omega))⟩, r2, o1.take _, o2⟩
