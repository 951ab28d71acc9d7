theorem k_lookAtCellN {σ : vSt} {b w h : Nat} {cnt : Nat → Int32} (g : GD σ w h cnt) : f_X0_lookAtCell b (-1) σ = some σ := by
  unfold f_X0_lookAtCell
  rw [k_hasCellN g.1]
  simp only [ob]
  rw [if_pos trivial]
theorem k_lookAtCorner {σ : vSt} {b w h : Nat} {cnt : Nat → Int32} {mk : Nat → Nat} {P : Nat → Prop} {c : Nat} (g : GD σ w h cnt) (m : MB σ b w h mk) (hP : ∀ c, P c → KK σ b w h mk c) (hc : c < gK w h) : ∃ σ', f_X0_lookAtCorner b (nI c) σ = some σ' ∧ Fz (WCor b) σ σ' ∧ ∀ c', (P c' ∨ c' = c) → KK σ' b w h mk c' := by
  have hd := g.1.1
  have h25 := gK_25 hd
  have gd : 0 ≤ (nI c).toInt ∧ (nI c).toInt < 25 := ig (by omega) (by omega)
  obtain ⟨p1, p0⟩ := k_pcK hd g.2.1 m hc
  have a1 := nTo_le w h mk c 1
  have a0 := nTo_le w h mk c 0
  unfold f_X0_lookAtCorner
  rw [k_hasCorner g.1 hc]
  simp only [ob]
  rw [if_neg (by decide), if_pos gd, nI_clamp (by omega), p1]
  simp only [ob]
  rw [if_pos gd, p0]
  simp only [ob]
  generalize hx : nTo w h mk c 1 = x at a1 ⊢
  generalize hy : nTo w h mk c 0 = y at a0 ⊢
  have l1 : ∀ {α : Type} (a b : α) (n : Nat), n < 9 → (if nI x = nI n then a else b) = if x = n then a else b := by
    intro α a b n hn
    by_cases z : x = n
    · rw [if_pos z, if_pos (by rw [z])]
    · rw [if_neg z, if_neg (by rw [nI_eq (by omega) (by omega)]; exact z)]
  have l0 : ∀ {α : Type} (a b : α) (n : Nat), n < 9 → (if nI y = nI n then a else b) = if y = n then a else b := by
    intro α a b n hn
    by_cases z : y = n
    · rw [if_pos z, if_pos (by rw [z])]
    · rw [if_neg z, if_neg (by rw [nI_eq (by omega) (by omega)]; exact z)]
  have lz : ∀ {α : Type} (a b : α), (if nI y ≤ nI 0 then a else b) = if y = 0 then a else b := by
    intro α a b
    by_cases z : y = 0
    · rw [if_pos z, if_pos (by rw [z]; exact Int32.le_refl _)]
    · rw [if_neg z, if_neg (by rw [nI_leI (by omega) (by decide)]; omega)]
  have lg : ∀ {α : Type} (a b : α), (if nI 2 < nI x then a else b) = if 2 < x then a else b := by
    intro α a b
    by_cases z : 2 < x
    · rw [if_pos z, if_pos ((nI_ltI (by decide) (by omega)).mpr z)]
    · rw [if_neg z, if_neg (by rw [nI_ltI (by decide) (by omega)]; exact z)]
  simp only [lz, lg, l1 _ _ 1 (by decide), l1 _ _ 2 (by decide), l1 _ _ 0 (by decide), l0 _ _ 0 (by decide), l0 _ _ 1 (by decide)]
  have d1 : badK w h mk c ↔ (2 < x ∨ (x = 1 ∧ y = 0)) := by unfold badK; rw [hx, hy]
  have d2 : dedK w h mk 2 c ↔ (x = 2 ∧ 0 < y) := by unfold dedK; rw [if_pos rfl, hx, hy]
  have d3 : dedK w h mk 3 c ↔ (y = 1 ∧ x + 3 = 3) := by unfold dedK; rw [if_neg (by decide), hx, hy]
  have d4 : dedK w h mk 4 c ↔ (y = 1 ∧ x + 3 = 4) := by unfold dedK; rw [if_neg (by decide), hx, hy]
  rw [op_pI (P := badK w h mk c) (o := if 2 < x then some (nI 1) else if x = 1 then if y = 0 then some (nI 1) else some (nI 0) else some (nI 0)) (fun q => by
    rcases d1.mp q with q2 | ⟨q2, q3⟩
    · rw [if_pos q2]
    · rw [if_neg (by omega), if_pos q2, if_pos q3]) (fun q => by
    rw [d1] at q
    rw [if_neg (by omega)]
    by_cases z : x = 1
    · rw [if_pos z, if_neg (by omega)]
    · rw [if_neg z])]
  simp only [ob]
  obtain ⟨y1, e1, h1⟩ := k_with (gI σ b 6) (show c < 32 by omega) (pI (badK w h mk c))
  rw [e1]
  simp only [ob]
  rw [op_pI (P := x = 2) (o := if x = 2 then some (nI 1) else some (nI 0)) (fun q => if_pos q) (fun q => if_neg q)]
  simp only [ob]
  obtain ⟨y2, e2, h2⟩ := k_with (gI (sI σ b 6 y1) b 7) (show c < 32 by omega) (pI (x = 2))
  rw [e2]
  simp only [ob]
  rw [op_pI (P := dedK w h mk 2 c) (o := if x = 2 then if y = 0 then some (nI 0) else some (nI 1) else some (nI 0)) (fun q => by
    rw [d2] at q
    rw [if_pos q.1, if_neg (by omega)]) (fun q => by
    rw [d2] at q
    by_cases z : x = 2
    · rw [if_pos z, if_pos (by omega)]
    · rw [if_neg z])]
  simp only [ob]
  obtain ⟨y3, e3, h3⟩ := k_with (gI (sI (sI σ b 6 y1) b 7 y2) (b + 1) 2) (show c < 32 by omega) (pI (dedK w h mk 2 c))
  rw [e3]
  simp only [ob]
  rw [op_pI (P := dedK w h mk 3 c) (o := if x = 0 then if y = 1 then some (nI 1) else some (nI 0) else some (nI 0)) (fun q => by
    rw [d3] at q
    rw [if_pos (by omega), if_pos (by omega)]) (fun q => by
    rw [d3] at q
    by_cases z : x = 0
    · rw [if_pos z, if_neg (by omega)]
    · rw [if_neg z])]
  simp only [ob]
  obtain ⟨y4, e4, h4⟩ := k_with (gI (sI (sI (sI σ b 6 y1) b 7 y2) (b + 1) 2 y3) (b + 1) 3) (show c < 32 by omega) (pI (dedK w h mk 3 c))
  rw [e4]
  simp only [ob]
  rw [op_pI (P := dedK w h mk 4 c) (o := if x = 1 then if y = 1 then some (nI 1) else some (nI 0) else some (nI 0)) (fun q => by
    rw [d4] at q
    rw [if_pos (by omega), if_pos (by omega)]) (fun q => by
    rw [d4] at q
    by_cases z : x = 1
    · rw [if_pos z, if_neg (by omega)]
    · rw [if_neg z])]
  simp only [ob]
  obtain ⟨y5, e5, h5⟩ := k_with (gI (sI (sI (sI (sI σ b 6 y1) b 7 y2) (b + 1) 2 y3) (b + 1) 3 y4) (b + 1) 4) (show c < 32 by omega) (pI (dedK w h mk 4 c))
  rw [e5]
  simp only [ob]
  rw [sI_ne _ _ (Or.inr (by decide))] at h2
  rw [sI_ne _ _ (Or.inl (by omega)), sI_ne _ _ (Or.inl (by omega))] at h3
  rw [sI_ne _ _ (Or.inr (by decide)), sI_ne _ _ (Or.inl (by omega)), sI_ne _ _ (Or.inl (by omega))] at h4
  rw [sI_ne _ _ (Or.inr (by decide)), sI_ne _ _ (Or.inr (by decide)), sI_ne _ _ (Or.inl (by omega)), sI_ne _ _ (Or.inl (by omega))] at h5
  refine ⟨_, rfl, ((((Fz.rf.wr (Or.inl ⟨rfl, Or.inl rfl⟩)).wr (Or.inl ⟨rfl, Or.inr rfl⟩)).wr (Or.inr ⟨rfl, by decide⟩)).wr (Or.inr ⟨rfl, by decide⟩)).wr (Or.inr ⟨rfl, by decide⟩), fun c' hc' => ?_⟩
  have f1 : gI (sI (sI (sI (sI (sI σ b 6 y1) b 7 y2) (b + 1) 2 y3) (b + 1) 3 y4) (b + 1) 4 y5) b 6 = y1 := by
    rw [sI_ne _ _ (Or.inl (by omega)), sI_ne _ _ (Or.inl (by omega)), sI_ne _ _ (Or.inl (by omega)), sI_ne _ _ (Or.inr (by decide)), sI_same]
  have f2 : gI (sI (sI (sI (sI (sI σ b 6 y1) b 7 y2) (b + 1) 2 y3) (b + 1) 3 y4) (b + 1) 4 y5) b 7 = y2 := by
    rw [sI_ne _ _ (Or.inl (by omega)), sI_ne _ _ (Or.inl (by omega)), sI_ne _ _ (Or.inl (by omega)), sI_same]
  have f3 : gI (sI (sI (sI (sI (sI σ b 6 y1) b 7 y2) (b + 1) 2 y3) (b + 1) 3 y4) (b + 1) 4 y5) (b + 1) 2 = y3 := by
    rw [sI_ne _ _ (Or.inr (by decide)), sI_ne _ _ (Or.inr (by decide)), sI_same]
  have f4 : gI (sI (sI (sI (sI (sI σ b 6 y1) b 7 y2) (b + 1) 2 y3) (b + 1) 3 y4) (b + 1) 4 y5) (b + 1) 3 = y4 := by
    rw [sI_ne _ _ (Or.inr (by decide)), sI_same]
  have f5 : gI (sI (sI (sI (sI (sI σ b 6 y1) b 7 y2) (b + 1) 2 y3) (b + 1) 3 y4) (b + 1) 4 y5) (b + 1) 4 = y5 := sI_same _ _ _ _
  unfold KK
  rw [f1, f2, f3, f4, f5]
  by_cases hcc : c' = c
  · subst hcc
    rw [hx]
    exact ⟨wi_iff hc h1, wi_iff hc h2, wi_iff hc h3, wi_iff hc h4, wi_iff hc h5⟩
  · rw [wi_ne hcc h1, wi_ne hcc h2, wi_ne hcc h3, wi_ne hcc h4, wi_ne hcc h5]
    exact hP c' (hc'.resolve_right hcc)
