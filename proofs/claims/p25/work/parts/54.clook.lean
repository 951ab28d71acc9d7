/-! THE CLASS'S GRID, whole; looks at a cell, at a corner -/
def gCl (w h e i : Nat) : Nat := if e < (h + 1) * w then (if i = 0 then (if e / w = 0 then 99 else e - w) else (if h ≤ e / w then 99 else e)) else (if i = 0 then (if (e - (h + 1) * w) % (w + 1) = 0 then 99 else (e - (h + 1) * w) / (w + 1) * w + (e - (h + 1) * w) % (w + 1) - 1) else (if w ≤ (e - (h + 1) * w) % (w + 1) then 99 else (e - (h + 1) * w) / (w + 1) * w + (e - (h + 1) * w) % (w + 1)))
theorem gCl_dec : dimAll (fun w h => allLt (gE w h) fun e => (allLt 2 fun i => decide (gCl w h e i < gC w h) || decide (gCl w h e i = 99)) && (allLt (gC w h) fun c => decide (gCl w h e 0 = c ∨ gCl w h e 1 = c) == (gArL w h c).contains e)) = true := by decide +kernel
theorem gCl_or {w h e i : Nat} (hd : dim w h) (he : e < gE w h) (hi : i < 2) : gCl w h e i < gC w h ∨ gCl w h e i = 99 := by
  have h1 := allLt_of (and_l (allLt_of (dimAll_of gCl_dec hd) he)) hi
  rcases Bool.or_eq_true_iff.mp h1 with h2 | h2
  · exact Or.inl (of_decide_eq_true h2)
  · exact Or.inr (of_decide_eq_true h2)
theorem gArL_iff {w h e c : Nat} (hd : dim w h) (he : e < gE w h) (hc : c < gC w h) : e ∈ gArL w h c ↔ (gCl w h e 0 = c ∨ gCl w h e 1 = c) := by
  have h1 := eq_of_beq (allLt_of (and_r (allLt_of (dimAll_of gCl_dec hd) he)) hc)
  rw [← List.contains_iff_mem, ← h1, decide_eq_true_iff]
def GD (σ : vSt) (w h : Nat) (cnt : Nat → Int32) : Prop := GF σ w h ∧ GM σ w h ∧ (∀ k, k < 16 → gI σ 1 k = cnt k) ∧ ∀ e, e < gE w h → ∀ s, s < 2 → gI σ 5 (2 * e + s) = nI (gEn w h e s) ∧ gI σ 4 (2 * e + s) = tI (gCl w h e s)
def Fz (W : Nat → Nat → Prop) (σ σ' : vSt) : Prop := (∀ q j, ¬ W q j → gI σ' q j = gI σ q j) ∧ σ'.2 = σ.2
theorem Fz.rf {W : Nat → Nat → Prop} {σ : vSt} : Fz W σ σ := ⟨fun _ _ _ => rfl, rfl⟩
theorem Fz.tr {W : Nat → Nat → Prop} {a b c : vSt} (x : Fz W a b) (y : Fz W b c) : Fz W a c := ⟨fun q j hw => (y.1 q j hw).trans (x.1 q j hw), y.2.trans x.2⟩
theorem Fz.mono {W W' : Nat → Nat → Prop} {σ σ' : vSt} (x : Fz W σ σ') (hW : ∀ q j, W q j → W' q j) : Fz W' σ σ' := ⟨fun q j hw => x.1 q j (fun z => hw (hW q j z)), x.2⟩
theorem Fz.wr {W : Nat → Nat → Prop} {σ σ' : vSt} (x : Fz W σ σ') {q j : Nat} {v : Int32} (hW : W q j) : Fz W σ (sI σ' q j v) := by
  refine ⟨fun q' j' hw => ?_, x.2⟩
  rw [sI_if, if_neg (fun z => hw (by rw [z.1, z.2]; exact hW)), x.1 q' j' hw]
/-- a board's frame: n bounds the fields that it may write -/
def FB (b n : Nat) (σ σ' : vSt) : Prop := (∀ q j, q ≠ b → q ≠ b + 1 → gI σ' q j = gI σ q j) ∧ (∀ q j, q ≠ b → gL σ' q j = gL σ q j) ∧ ∀ j, n ≤ j → gI σ' b j = gI σ b j
theorem FB.rf {b n : Nat} {σ : vSt} : FB b n σ σ := ⟨fun _ _ _ _ => rfl, fun _ _ _ => rfl, fun _ _ => rfl⟩
theorem FB.tr {b n : Nat} {x y z : vSt} (f : FB b n x y) (g : FB b n y z) : FB b n x z := ⟨fun q j h1 h2 => (g.1 q j h1 h2).trans (f.1 q j h1 h2), fun q j h1 => (g.2.1 q j h1).trans (f.2.1 q j h1), fun j h1 => (g.2.2 j h1).trans (f.2.2 j h1)⟩
theorem FB.up {b n n' : Nat} {x y : vSt} (f : FB b n x y) (h : n ≤ n') : FB b n' x y := ⟨f.1, f.2.1, fun j hj => f.2.2 j (by omega)⟩
theorem sL_if (σ : vSt) (q j q' j' : Nat) (v : Int64) : gL (sL σ q j v) q' j' = if q' = q ∧ j' = j then v else gL σ q' j' := by
  unfold gL sL
  by_cases h : q' = q
  · subst h
    by_cases h2 : j' = j
    · subst h2; simp [vp_updL]
    · simp [vp_updL, h2]
  · simp [h]
theorem sI_L_g (σ : vSt) (q j : Nat) (v : Int32) (q2 j2 : Nat) : gL (sI σ q j v) q2 j2 = gL σ q2 j2 := rfl
theorem FB.wI {b n : Nat} {σ σ' : vSt} (f : FB b n σ σ') {q j : Nat} {v : Int32} (h : (q = b ∧ j < n) ∨ q = b + 1) : FB b n σ (sI σ' q j v) := by
  refine ⟨fun q' j' h1 h2 => ?_, f.2.1, fun j' h1 => ?_⟩
  · rw [sI_ne _ _ (by omega)]; exact f.1 q' j' h1 h2
  · rw [sI_ne _ _ (by omega)]; exact f.2.2 j' h1
theorem FB.wL {b n : Nat} {σ σ' : vSt} (f : FB b n σ σ') {j : Nat} {v : Int64} : FB b n σ (sL σ' b j v) := by
  refine ⟨f.1, fun q' j' h1 => ?_, f.2.2⟩
  rw [sL_if, if_neg (fun z => h1 z.1)]; exact f.2.1 q' j' h1
theorem Fz.fb {W : Nat → Nat → Prop} {b n : Nat} {σ σ' : vSt} (x : Fz W σ σ') (hW : ∀ q j, W q j → (q = b ∧ j < n) ∨ q = b + 1) : FB b n σ σ' := by
  refine ⟨fun q j h1 h2 => x.1 q j (fun z => ?_), fun q j _ => ?_, fun j h1 => x.1 b j (fun z => ?_)⟩
  · have := hW q j z; omega
  · unfold gL; rw [x.2]
  · have := hW b j z; omega
theorem GD.fb {σ σ' : vSt} {b n w h : Nat} {cnt : Nat → Int32} (g : GD σ w h cnt) (hb : 6 ≤ b) (f : FB b n σ σ') : GD σ' w h cnt := by
  obtain ⟨⟨hd, a1, a2, a3, a4, a5⟩, ⟨m1, m2⟩, g3, g4⟩ := g
  have kI : ∀ q j, q < 6 → gI σ' q j = gI σ q j := fun q j hq => f.1 q j (by omega) (by omega)
  have kL : ∀ q j, q < 6 → gL σ' q j = gL σ q j := fun q j hq => f.2.1 q j (by omega)
  refine ⟨⟨hd, ?_, ?_, ?_, ?_, ?_⟩, ⟨fun c hc e => ?_, fun k hk e => ?_⟩, fun k hk => ?_, fun e he s hs => ?_⟩
  · rw [kI 0 5 (by decide), a1]
  · rw [kI 0 6 (by decide), a2]
  · rw [kI 0 7 (by decide), a3]
  · rw [kI 0 8 (by decide), a4]
  · rw [kI 0 9 (by decide), a5]
  · rw [kL 2 c (by decide)]; exact m1 c hc e
  · rw [kL 3 k (by decide)]; exact m2 k hk e
  · rw [kI 1 k (by decide)]; exact g3 k hk
  · rw [kI 5 _ (by decide), kI 4 _ (by decide)]; exact g4 e he s hs
theorem k_hasCell {σ : vSt} {w h : Nat} (g : GF σ w h) {c : Nat} (hc : c < gC w h) : f_X1_hasCell (nI c) σ = some (nI 1) := by
  have h16 := gC_16 g.1
  unfold f_X1_hasCell
  rw [g.2.2.2.1, if_neg (by rw [nI_ltI (by omega) (by decide)]; omega), if_neg (by rw [nI_leI (by omega) (by omega)]; omega)]
theorem k_hasCellN {σ : vSt} {w h : Nat} (g : GF σ w h) : f_X1_hasCell (-1) σ = some (nI 0) := by
  unfold f_X1_hasCell
  rw [if_pos (by decide)]
theorem k_hasCorner {σ : vSt} {w h : Nat} (g : GF σ w h) {c : Nat} (hc : c < gK w h) : f_X1_hasCorner (nI c) σ = some (nI 1) := by
  have h16 := gK_25 g.1
  unfold f_X1_hasCorner
  rw [g.2.2.2.2.1, if_neg (by rw [nI_ltI (by omega) (by decide)]; omega), if_neg (by rw [nI_leI (by omega) (by omega)]; omega)]
theorem k_hasCornerN {σ : vSt} {w h : Nat} (g : GF σ w h) : f_X1_hasCorner (-1) σ = some (nI 0) := by
  unfold f_X1_hasCorner
  rw [if_pos (by decide)]
def unm (w h : Nat) (cnt : Nat → Int32) (mk : Nat → Nat) (c : Nat) : Prop := ¬ cnt c = -1 ∧ ¬ nI (nAr w h mk c 1) = cnt c
def CK (σ : vSt) (b w h : Nat) (cnt : Nat → Int32) (mk : Nat → Nat) (c : Nat) : Prop := (bi (gI σ b 4) c = true ↔ c < gC w h ∧ badC w h cnt mk c) ∧ (bi (gI σ b 5) c = true ↔ c < gC w h ∧ unm w h cnt mk c) ∧ (bi (gI σ (b + 1) 0) c = true ↔ c < gC w h ∧ dedC w h cnt mk 0 c) ∧ (bi (gI σ (b + 1) 1) c = true ↔ c < gC w h ∧ dedC w h cnt mk 1 c)
def KK (σ : vSt) (b w h : Nat) (mk : Nat → Nat) (k : Nat) : Prop := (bi (gI σ b 6) k = true ↔ k < gK w h ∧ badK w h mk k) ∧ (bi (gI σ b 7) k = true ↔ k < gK w h ∧ nTo w h mk k 1 = 2) ∧ (bi (gI σ (b + 1) 2) k = true ↔ k < gK w h ∧ dedK w h mk 2 k) ∧ (bi (gI σ (b + 1) 3) k = true ↔ k < gK w h ∧ dedK w h mk 3 k) ∧ (bi (gI σ (b + 1) 4) k = true ↔ k < gK w h ∧ dedK w h mk 4 k)
def WCell (b q j : Nat) : Prop := (q = b ∧ (j = 4 ∨ j = 5)) ∨ (q = b + 1 ∧ j < 2)
def WCor (b q j : Nat) : Prop := (q = b ∧ (j = 6 ∨ j = 7)) ∨ (q = b + 1 ∧ 2 ≤ j ∧ j < 5)
theorem op_pI {P : Prop} {o : Option Int32} (h1 : P → o = some (nI 1)) (h0 : ¬ P → o = some (nI 0)) : o = some (pI P) := by
  by_cases h : P
  · rw [h1 h, pI_t h]
  · rw [h0 h, pI_f h]
theorem wi_iff {P Q : Prop} {c : Nat} (hq : Q) {y x : Int32} (h : ∀ i, bi y i = if i = c then decide (¬ pI P = nI 0) else bi x i) : bi y c = true ↔ Q ∧ P := by
  rw [h c, if_pos rfl, decide_eq_true_iff, pI_0]
  exact ⟨fun z => ⟨hq, Classical.not_not.mp z⟩, fun z => fun n => n z.2⟩
theorem wi_ne {c c' : Nat} (hn : ¬ c' = c) {v y x : Int32} (h : ∀ i, bi y i = if i = c then decide (¬ v = nI 0) else bi x i) : bi y c' = bi x c' := by
  rw [h c', if_neg hn]
theorem k_lookAtCell {σ : vSt} {b w h : Nat} {cnt : Nat → Int32} {mk : Nat → Nat} {P : Nat → Prop} {c : Nat} (g : GD σ w h cnt) (m : MB σ b w h mk) (hP : ∀ c, P c → CK σ b w h cnt mk c) (hc : c < gC w h) (hz : cnt c = -1 → CK σ b w h cnt mk c) : ∃ σ', f_X0_lookAtCell b (nI c) σ = some σ' ∧ Fz (WCell b) σ σ' ∧ ∀ c', (P c' ∨ c' = c) → CK σ' b w h cnt mk c' := by
  have hd := g.1.1
  have h16 := gC_16 hd
  have gd : 0 ≤ (nI c).toInt ∧ (nI c).toInt < 16 := ig (by omega) (by omega)
  unfold f_X0_lookAtCell
  rw [k_hasCell g.1 hc]
  simp only [ob]
  rw [if_neg (by decide), if_pos gd, nI_clamp (by omega), g.2.2.1 c (by omega)]
  by_cases hm : cnt c = -1
  · rw [if_pos hm]
    exact ⟨σ, rfl, Fz.rf, fun c' hc' => by
      rcases hc' with q | q
      · exact hP c' q
      · rw [q]; exact hz hm⟩
  · rw [if_neg hm, if_pos gd, if_pos gd]
    obtain ⟨p1, p0⟩ := k_pcC hd g.2.1 m hc
    rw [p1]
    simp only [ob]
    rw [if_pos gd, p0]
    simp only [ob]
    have a1 := nAr_le w h mk c 1
    have a0 := nAr_le w h mk c 0
    rw [op_pI (P := badC w h cnt mk c) (o := if cnt c < nI (nAr w h mk c 1) then some (nI 1) else if cnt c ≤ nI (nAr w h mk c 1) + nI (nAr w h mk c 0) then some (nI 0) else some (nI 1)) (fun q => by
      rcases q.2 with q2 | q2
      · rw [if_pos q2]
      · rw [nI_add, if_neg q2]; simp) (fun q => by
      rw [if_neg (fun z => q ⟨hm, Or.inl z⟩), nI_add, if_pos (Classical.not_not.mp (fun z => q ⟨hm, Or.inr z⟩))])]
    simp only [ob]
    obtain ⟨y1, e1, h1⟩ := k_with (gI σ b 4) (show c < 32 by omega) (pI (badC w h cnt mk c))
    rw [e1]
    simp only [ob]
    rw [op_pI (P := unm w h cnt mk c) (o := if nI (nAr w h mk c 1) = cnt c then some (nI 0) else some (nI 1)) (fun q => if_neg q.2) (fun q => if_pos (Classical.not_not.mp (fun z => q ⟨hm, z⟩)))]
    simp only [ob]
    obtain ⟨y2, e2, h2⟩ := k_with (gI (sI σ b 4 y1) b 5) (show c < 32 by omega) (pI (unm w h cnt mk c))
    rw [e2]
    simp only [ob]
    rw [op_pI (P := dedC w h cnt mk 0 c) (o := if nI (nAr w h mk c 0) ≤ nI 0 then some (nI 0) else if nI (nAr w h mk c 1) = cnt c then some (nI 1) else some (nI 0)) (fun q => by
      have q1 := q.1
      rw [if_neg (by decide), Nat.add_zero] at q1
      rw [if_neg (by rw [nI_leI (by omega) (by decide)]; have := q.2; omega), if_pos q1.symm]) (fun q => by
      by_cases z : nAr w h mk c 0 = 0
      · rw [if_pos (by rw [nI_leI (by omega) (by decide)]; omega)]
      · rw [if_neg (by rw [nI_leI (by omega) (by decide)]; omega), if_neg (fun t => q ⟨by rw [if_neg (by decide), Nat.add_zero]; exact t.symm, by omega⟩)])]
    simp only [ob]
    obtain ⟨y3, e3, h3⟩ := k_with (gI (sI (sI σ b 4 y1) b 5 y2) (b + 1) 0) (show c < 32 by omega) (pI (dedC w h cnt mk 0 c))
    rw [e3]
    simp only [ob]
    rw [op_pI (P := dedC w h cnt mk 1 c) (o := if nI (nAr w h mk c 0) ≤ nI 0 then some (nI 0) else if nI (nAr w h mk c 1) + nI (nAr w h mk c 0) = cnt c then some (nI 1) else some (nI 0)) (fun q => by
      have q1 := q.1
      rw [if_pos rfl] at q1
      rw [if_neg (by rw [nI_leI (by omega) (by decide)]; have := q.2; omega), nI_add, if_pos q1.symm]) (fun q => by
      by_cases z : nAr w h mk c 0 = 0
      · rw [if_pos (by rw [nI_leI (by omega) (by decide)]; omega)]
      · rw [if_neg (by rw [nI_leI (by omega) (by decide)]; omega), nI_add, if_neg (fun t => q ⟨by rw [if_pos rfl]; exact t.symm, by omega⟩)])]
    simp only [ob]
    obtain ⟨y4, e4, h4⟩ := k_with (gI (sI (sI (sI σ b 4 y1) b 5 y2) (b + 1) 0 y3) (b + 1) 1) (show c < 32 by omega) (pI (dedC w h cnt mk 1 c))
    rw [e4]
    simp only [ob]
    rw [sI_ne _ _ (Or.inr (by decide))] at h2
    rw [sI_ne _ _ (Or.inl (by omega)), sI_ne _ _ (Or.inl (by omega))] at h3
    rw [sI_ne _ _ (Or.inr (by decide)), sI_ne _ _ (Or.inl (by omega)), sI_ne _ _ (Or.inl (by omega))] at h4
    refine ⟨_, rfl, (((Fz.rf.wr (Or.inl ⟨rfl, Or.inl rfl⟩)).wr (Or.inl ⟨rfl, Or.inr rfl⟩)).wr (Or.inr ⟨rfl, by decide⟩)).wr (Or.inr ⟨rfl, by decide⟩), fun c' hc' => ?_⟩
    have f1 : gI (sI (sI (sI (sI σ b 4 y1) b 5 y2) (b + 1) 0 y3) (b + 1) 1 y4) b 4 = y1 := by
      rw [sI_ne _ _ (Or.inl (by omega)), sI_ne _ _ (Or.inl (by omega)), sI_ne _ _ (Or.inr (by decide)), sI_same]
    have f2 : gI (sI (sI (sI (sI σ b 4 y1) b 5 y2) (b + 1) 0 y3) (b + 1) 1 y4) b 5 = y2 := by
      rw [sI_ne _ _ (Or.inl (by omega)), sI_ne _ _ (Or.inl (by omega)), sI_same]
    have f3 : gI (sI (sI (sI (sI σ b 4 y1) b 5 y2) (b + 1) 0 y3) (b + 1) 1 y4) (b + 1) 0 = y3 := by
      rw [sI_ne _ _ (Or.inr (by decide)), sI_same]
    have f4 : gI (sI (sI (sI (sI σ b 4 y1) b 5 y2) (b + 1) 0 y3) (b + 1) 1 y4) (b + 1) 1 = y4 := sI_same _ _ _ _
    unfold CK
    rw [f1, f2, f3, f4]
    by_cases hcc : c' = c
    · subst hcc
      exact ⟨wi_iff hc h1, wi_iff hc h2, wi_iff hc h3, wi_iff hc h4⟩
    · rw [wi_ne hcc h1, wi_ne hcc h2, wi_ne hcc h3, wi_ne hcc h4]
      exact hP c' (hc'.resolve_right hcc)
