/-! THE CLASS: makeFound of a board, the grade -/
theorem dN_fit {w h : Nat} {cnt : Nat → Int32} {mk : Nat → Nat} {l : Nat} {x : Nat × Nat × Nat} (e : dN w h cnt mk l = some x) : fitA w h cnt mk ∧ ¬ hasR w h mk := by
  apply Classical.byContradiction
  intro q
  rw [dN_n (dP_n q) q] at e; cases e
theorem k_makeFound {σ : vSt} {b w h : Nat} {cnt : Nat → Int32} {mk : Nat → Nat} (hb : 6 ≤ b) (g : GD σ w h cnt) (s : SY σ b w h cnt mk) (hno : ¬ hasR w h mk) {r e : Nat} (v10 : gI σ b 10 = nI r) (v11 : gI σ b 11 = nI e) (hr : r < 8) (he : e < gE w h) (h0 : mk e = 0) : ∃ σ', f_X0_makeFound b σ = some σ' ∧ FB b 10 σ σ' ∧ SY σ' b w h cnt (um mk e (bec r)) := by
  unfold f_X0_makeFound
  rw [v10, k_becomes hr]
  simp only [ob]
  obtain ⟨σ2, e2, f2, s2⟩ := k_settleEdge hb g s hno he h0 (bec_or r)
  rw [v11, e2]
  simp only [ob]
  exact ⟨σ2, rfl, f2, s2⟩
theorem all_dec : ∀ E, E < 41 → ∀ e, e < 64 → bt (o_lshl (1 : Int64) (nI E) - 1) e = decide (e < E) := by decide +kernel
theorem k_allEdges {σ : vSt} {w h : Nat} (g : GF σ w h) : ∃ v, f_X1_allEdges σ = some v ∧ ∀ e, bt v e = decide (e < gE w h ∧ z0 e = 0) := by
  have h40 := gE_40 g.1
  refine ⟨_, rfl, fun e => ?_⟩
  rw [g.2.2.2.2.2]
  by_cases hlt : e < 64
  · rw [all_dec (gE w h) (by omega) e hlt]
    simp [z0]
  · rw [bt_ge _ (by omega)]
    symm
    rw [decide_eq_false_iff_not]
    omega
theorem bt_z0 (w h : Nat) (e : Nat) : bt (0 : Int64) e = decide (e < gE w h ∧ z0 e = 1) := by
  rw [bt_0]
  simp [z0]
theorem k_finished {σ : vSt} {b w h : Nat} {cnt : Nat → Int32} {mk : Nat → Nat} (hd : dim w h) (s : SY σ b w h cnt mk) : f_X0_finished b σ = some (pI (fitA w h cnt mk ∧ hasR w h mk)) := by
  unfold f_X0_finished
  rw [s.2.2.2.2]
  by_cases hg : gdR w h cnt mk
  · rw [if_neg (by rw [pI_0]; exact fun z => z hg), k_fits hd s]
    simp only [ob]
    by_cases hf : fitA w h cnt mk
    · rw [if_neg (by rw [pI_0]; exact fun z => z hf), pI_t ⟨hf, (good_has hf).mp hg⟩]
    · rw [if_pos (pI_0.mpr hf), pI_f (fun q => hf q.1)]
  · rw [if_pos (pI_0.mpr hg), pI_f (fun q => hg ((good_has q.1).mpr q.2))]
def gA (a : Nat) : Int32 := if a = 0 then -1 else nI a
theorem k_gradeOf {r : Nat} (hr : r < 8) : f_X6_gradeOf (nI r) = some (nI (gof r)) := by
  rcases (show r = 0 ∨ r = 1 ∨ r = 2 ∨ r = 3 ∨ r = 4 ∨ r = 5 ∨ r = 6 ∨ r = 7 by omega) with rfl | rfl | rfl | rfl | rfl | rfl | rfl | rfl <;> rfl
theorem gof_1 (r : Nat) : 1 ≤ gof r := by unfold gof; split <;> (try split) <;> (try split) <;> decide
theorem k_gmax_dec : ∀ a, a < 5 → ∀ g, g < 5 → 1 ≤ g → f_J9_max_7cf53 (gA a) (nI g) = some (gA (max a g)) := by decide +kernel
theorem gr_z {w h : Nat} {cnt : Nat → Int32} : ∀ (n : Nat) (f : Nat → Nat) (a : Nat), (gr w h cnt n f a).1 = 0 → (gr w h cnt n f a).2 = f ∧ a = 0
  | 0, f, a => fun q => ⟨rfl, q⟩
  | n + 1, f, a => by
    cases q : dN w h cnt f 7 with
    | none => rw [gr_n q]; exact fun z => ⟨rfl, z⟩
    | some x =>
      obtain ⟨r, e, p⟩ := x
      rw [gr_y q]
      intro z
      have := (gr_z n _ _ z).2
      have h1 := gof_1 r
      omega
def WGi (q j : Nat) : Prop := 11 ≤ q ∧ q ≤ 14
def WGl (q j : Nat) : Prop := q = 11 ∨ q = 13
theorem k_grade19 {w h : Nat} {cnt : Nat → Int32} : ∀ (n i m a : Nat) (mk : Nat → Nat) (σ : vSt), i + opn w h mk ≤ 40 → 40 < i + n → opn w h mk < m → a < 5 → GD σ w h cnt → SY σ 13 w h cnt mk → (∀ e, mk e < 3) → ∃ σ', f_X4_greatestGrade_19 n (gA a) (nI i) σ = some (gA (gr w h cnt m mk a).1, σ') ∧ FG WGi WGl σ σ' ∧ SY σ' 13 w h cnt (gr w h cnt m mk a).2 ∧ (gr w h cnt m mk a).1 < 5 := by
  intro n
  induction n with
  | zero => intro i m a mk σ h1 h2; omega
  | succ n ih =>
    intro i m a mk σ h1 h2 hm ha g s h3
    have hd := g.1.1
    obtain ⟨m, rfl⟩ : ∃ m', m = m' + 1 := ⟨m - 1, by omega⟩
    rw [f_X4_greatestGrade_19.eq_2]
    by_cases hi : 40 ≤ i
    · rw [if_pos ((nI_leI (by decide) (by omega)).mpr hi)]
      have : dN w h cnt mk 7 = none := by
        cases q : dN w h cnt mk 7 with
        | none => rfl
        | some x =>
          obtain ⟨r, e, p⟩ := x
          obtain ⟨_, y1, y2⟩ := dN_ok hd q
          have : 0 < opn w h mk := cnP_pos.mpr ⟨e, y1, y2⟩
          omega
      rw [gr_n this]
      exact ⟨σ, rfl, FG.rf, s, ha⟩
    · rw [if_neg (by rw [nI_leI (by decide) (by omega)]; exact hi), nI_1 i]
      obtain ⟨σ1, F1, ⟨c1, c2⟩ | ⟨r, e, p, c1, c2, v10, v11, _⟩⟩ := k_findNext (b := 13) (Or.inr rfl) h3 g s (l := 7) (by decide)
      · rw [c2]
        simp only [ob]
        rw [if_pos trivial, gr_n c1]
        exact ⟨σ1, rfl, F1.mono (fun q j x => by rcases x with x | x | x <;> (unfold WGi; omega)) (fun q j x => Or.inl x), F1.sy (Or.inr rfl) s, ha⟩
      · rw [c2]
        simp only [ob]
        obtain ⟨y0, y1, y2⟩ := dN_ok hd c1
        rw [if_neg (by decide), v10, k_gradeOf y0]
        simp only [ob]
        have hg4 := gof_4 r
        rw [k_gmax_dec a ha (gof r) (by omega) (gof_1 r)]
        simp only [ob]
        obtain ⟨σ2, e2, f2, s2⟩ := k_makeFound (b := 13) (by decide) (F1.gd (by decide) g) (F1.sy (Or.inr rfl) s) (dN_fit c1).2 v10 v11 y0 y1 y2
        rw [e2]
        simp only [ob]
        have ho : opn w h (um mk e (bec r)) < opn w h mk := opn_um y1 y2 (bec_3 r).2
        have hmax : max a (gof r) < 5 := Nat.max_lt.mpr ⟨ha, by omega⟩
        obtain ⟨σ3, e3, f3, s3, z3⟩ := ih (i + 1) m (max a (gof r)) (um mk e (bec r)) σ2 (by omega) (by omega) (by omega) hmax ((F1.gd (by decide) g).fb (by decide) f2) s2 (fun x => by
          by_cases hx : x = e
          · rw [hx, um_e]; exact (bec_3 r).1
          · rw [um_n hx]; exact h3 x)
        rw [gr_y c1]
        refine ⟨σ3, e3, ?_, s3, z3⟩
        exact ((F1.mono (fun q j x => by rcases x with x | x | x <;> (unfold WGi; omega)) (fun q j x => Or.inl x)).tr (f2.g.mono (fun q j x => by rcases x with x | x <;> (unfold WGi; omega)) (fun q j x => Or.inr x))).tr f3
theorem k_greatestGrade {σ : vSt} {w h : Nat} {cnt : Nat → Int32} (g : GD σ w h cnt) : ∃ σ', f_X4_greatestGrade σ = some (tI (gdV w h cnt), σ') ∧ FG WGi WGl σ σ' := by
  have hd := g.1.1
  obtain ⟨v, e1, hv⟩ := k_allEdges g.1
  unfold f_X4_greatestGrade
  rw [e1]
  simp only [ob]
  obtain ⟨σ1, e2, f2, s2⟩ := k_begin (b := 13) (mk := z0) (by decide) g (bt_z0 w h) hv
  rw [e2]
  simp only [ob]
  have g1 := g.fb (by decide) f2
  have ho := opn_le hd z0
  obtain ⟨σ2, e3, f3, s3, z3⟩ := k_grade19 600 0 41 0 z0 σ1 (by omega) (by decide) (by omega) (by decide) g1 s2 (fun e => by unfold z0; decide)
  rw [show gA 0 = (-1 : Int32) from rfl] at e3
  rw [e3]
  simp only [ob]
  rw [k_finished hd s3]
  simp only [ob]
  have F : FG WGi WGl σ σ2 := (f2.g.mono (fun q j x => by rcases x with x | x <;> (unfold WGi; omega)) (fun q j x => Or.inr x)).tr f3
  by_cases hq : fitA w h cnt (gr w h cnt 41 z0 0).2 ∧ hasR w h (gr w h cnt 41 z0 0).2
  · rw [if_neg (by rw [pI_0]; exact fun z => z hq)]
    have hgd : gdV w h cnt = (gr w h cnt 41 z0 0).1 := by unfold gdV; exact if_pos hq
    have hne : ¬ (gr w h cnt 41 z0 0).1 = 0 := by
      intro z
      obtain ⟨e, _, r⟩ := hq.2
      have := r.1
      rw [(gr_z 41 z0 0 z).1] at this
      cases this
    refine ⟨σ2, ?_, F⟩
    rw [hgd, tI_n (by omega), show gA (gr w h cnt 41 z0 0).1 = nI (gr w h cnt 41 z0 0).1 from if_neg hne]
  · rw [if_pos (pI_0.mpr hq)]
    have hgd : gdV w h cnt = 99 := by unfold gdV; exact if_neg hq
    exact ⟨σ2, by rw [hgd, tI_99], F⟩
