/-! THE CLASS: lay, its loops -/
theorem pos_dec : dimAll (fun w h => allLt (h + 1) fun r => allLt (w + 1) fun c => (decide (c < w) == false || (decide (r * w + c < gE w h ∧ gEn w h (r * w + c) 0 = r * (w + 1) + c ∧ gEn w h (r * w + c) 1 = r * (w + 1) + c + 1 ∧ gCl w h (r * w + c) 0 = (if r = 0 then 99 else (r - 1) * w + c) ∧ gCl w h (r * w + c) 1 = (if r < h then r * w + c else 99)))) && ((decide (r < h) == false || (decide ((h + 1) * w + (r * (w + 1) + c) < gE w h ∧ gEn w h ((h + 1) * w + (r * (w + 1) + c)) 0 = r * (w + 1) + c ∧ gEn w h ((h + 1) * w + (r * (w + 1) + c)) 1 = r * (w + 1) + c + w + 1 ∧ gCl w h ((h + 1) * w + (r * (w + 1) + c)) 0 = (if c = 0 then 99 else r * w + (c - 1)) ∧ gCl w h ((h + 1) * w + (r * (w + 1) + c)) 1 = (if c < w then r * w + c else 99)))) && (allLt (gE w h) fun e => decide (gEn w h e 0 = r * (w + 1) + c) == (decide (c < w ∧ e = r * w + c) || decide (r < h ∧ e = (h + 1) * w + (r * (w + 1) + c)))))) = true := by decide +kernel
theorem posH {w h r c : Nat} (hd : dim w h) (hr : r ≤ h) (hc : c < w) : r * w + c < gE w h ∧ gEn w h (r * w + c) 0 = r * (w + 1) + c ∧ gEn w h (r * w + c) 1 = r * (w + 1) + c + 1 ∧ gCl w h (r * w + c) 0 = (if r = 0 then 99 else (r - 1) * w + c) ∧ gCl w h (r * w + c) 1 = (if r < h then r * w + c else 99) := by
  have h1 := and_l (allLt_of (allLt_of (dimAll_of pos_dec hd) (show r < h + 1 by omega)) (show c < w + 1 by omega))
  rw [decide_eq_true hc] at h1
  exact of_decide_eq_true h1
theorem posV {w h r c : Nat} (hd : dim w h) (hr : r < h) (hc : c ≤ w) : (h + 1) * w + (r * (w + 1) + c) < gE w h ∧ gEn w h ((h + 1) * w + (r * (w + 1) + c)) 0 = r * (w + 1) + c ∧ gEn w h ((h + 1) * w + (r * (w + 1) + c)) 1 = r * (w + 1) + c + w + 1 ∧ gCl w h ((h + 1) * w + (r * (w + 1) + c)) 0 = (if c = 0 then 99 else r * w + (c - 1)) ∧ gCl w h ((h + 1) * w + (r * (w + 1) + c)) 1 = (if c < w then r * w + c else 99) := by
  have h1 := and_l (and_r (allLt_of (allLt_of (dimAll_of pos_dec hd) (show r < h + 1 by omega)) (show c < w + 1 by omega)))
  rw [decide_eq_true hr] at h1
  exact of_decide_eq_true h1
theorem posE {w h r c e : Nat} (hd : dim w h) (hr : r ≤ h) (hc : c ≤ w) (he : e < gE w h) : gEn w h e 0 = r * (w + 1) + c ↔ ((c < w ∧ e = r * w + c) ∨ (r < h ∧ e = (h + 1) * w + (r * (w + 1) + c))) := by
  have h1 := eq_of_beq (allLt_of (and_r (and_r (allLt_of (allLt_of (dimAll_of pos_dec hd) (show r < h + 1 by omega)) (show c < w + 1 by omega)))) he)
  rw [← decide_eq_true_iff (p := gEn w h e 0 = r * (w + 1) + c), h1, Bool.or_eq_true, decide_eq_true_iff, decide_eq_true_iff]
theorem k_cellAt {σ : vSt} {w h : Nat} (g : GF σ w h) {i j : Nat} (hi : i < 10) (hj : j < 10) : f_X1_cellAt (dI i) (dI j) σ = some (tI (if 1 ≤ i ∧ i - 1 < h ∧ 1 ≤ j ∧ j - 1 < w then (i - 1) * w + (j - 1) else 99)) := by
  obtain ⟨d1, d2, d3, d4⟩ := g.1
  unfold f_X1_cellAt
  rw [g.2.1, g.2.2.1]
  have no : ¬ (1 ≤ i ∧ i - 1 < h ∧ 1 ≤ j ∧ j - 1 < w) → ((some (nI 0) : Option Int32).bind fun v2 => (if v2 = nI 0 then some (-1 : Int32) else some ((dI i * nI w) + dI j))) = some (tI (if 1 ≤ i ∧ i - 1 < h ∧ 1 ≤ j ∧ j - 1 < w then (i - 1) * w + (j - 1) else 99)) := by
    intro q
    rw [if_neg q, tI_99]; rfl
  by_cases a1 : i = 0
  · rw [if_pos ((dI_nn i (by omega)).mpr a1)]
    exact no (by omega)
  · rw [if_neg (by rw [dI_nn i (by omega)]; exact a1)]
    obtain ⟨i, rfl⟩ : ∃ i', i = i' + 1 := ⟨i - 1, by omega⟩
    rw [dI_s]
    rw [dI_s] at no
    by_cases a2 : h ≤ i
    · rw [if_pos ((nI_leI (by omega) (by omega)).mpr a2)]
      exact no (by omega)
    · rw [if_neg (by rw [nI_leI (by omega) (by omega)]; exact a2)]
      by_cases a3 : j = 0
      · rw [if_pos ((dI_nn j (by omega)).mpr a3)]
        exact no (by omega)
      · rw [if_neg (by rw [dI_nn j (by omega)]; exact a3)]
        obtain ⟨j, rfl⟩ : ∃ j', j = j' + 1 := ⟨j - 1, by omega⟩
        rw [dI_s]
        rw [dI_s] at no
        by_cases a4 : w ≤ j
        · rw [if_pos ((nI_leI (by omega) (by omega)).mpr a4)]
          exact no (by omega)
        · rw [if_neg (by rw [nI_leI (by omega) (by omega)]; exact a4)]
          simp only [ob]
          rw [if_neg (by decide), nI_mul, nI_add, if_pos (by omega), Nat.add_sub_cancel, Nat.add_sub_cancel]
          have hb : i * w + j < 99 := by
            have : i * w ≤ 3 * 4 := Nat.mul_le_mul (by omega) (by omega)
            omega
          rw [tI_n (by omega)]
def DK (w h k e : Nat) : Prop := gEn w h e 0 < k
theorem LI.iff {σ : vSt} {w h : Nat} {D D' : Nat → Prop} (l : LI σ w h D) (hD : ∀ e, e < gE w h → (D e ↔ D' e)) : LI σ w h D' :=
  ⟨l.1, fun c hc e => (l.2.1 c hc e).trans ⟨fun q => ⟨q.1, (hD e q.1).mp q.2.1, q.2.2⟩, fun q => ⟨q.1, (hD e q.1).mpr q.2.1, q.2.2⟩⟩, fun k hk e => (l.2.2.1 k hk e).trans ⟨fun q => ⟨q.1, (hD e q.1).mp q.2.1, q.2.2⟩, fun q => ⟨q.1, (hD e q.1).mpr q.2.1, q.2.2⟩⟩, fun e he hd => l.2.2.2 e he ((hD e he).mpr hd)⟩
theorem k_layFrom {σ : vSt} {w h r c : Nat} (hr : r ≤ h) (hc : c ≤ w) (l : LI σ w h (DK w h (r * (w + 1) + c))) : ∃ σ', f_X1_layEdgesFrom (nI r) (nI c) σ = some σ' ∧ FY σ σ' ∧ LI σ' w h (DK w h (r * (w + 1) + c + 1)) := by
  have g := l.1
  have hd := g.1
  obtain ⟨d1, d2, d3, d4⟩ := hd
  unfold f_X1_layEdgesFrom
  rw [g.2.1, nI_add, nI_mul, nI_add]
  simp only [ob]
  have ec : f_X1_cellAt (nI r) (nI c) σ = some (tI (if r < h ∧ c < w then r * w + c else 99)) := by
    have := k_cellAt g (i := r + 1) (j := c + 1) (by omega) (by omega)
    rw [dI_s, dI_s, Nat.add_sub_cancel, Nat.add_sub_cancel] at this
    rw [this]
    by_cases q : r < h ∧ c < w
    · rw [if_pos q, if_pos (by omega)]
    · rw [if_neg q, if_neg (by omega)]
  rw [ec]
  simp only [ob]
  have key : ∃ σ5, ((if nI w ≤ nI c then some σ else ((f_X1_cellAt (nI r - (nI 1)) (nI c) σ).bind fun v8 => ((f_X1_layEdge ((nI r * nI w) + nI c) (nI (r * (w + 1) + c)) (nI (r * (w + 1) + c) + (nI 1)) v8 (tI (if r < h ∧ c < w then r * w + c else 99)) σ).bind fun σ10 => some σ10))) : Option vSt) = some σ5 ∧ FY σ σ5 ∧ LI σ5 w h (fun e => DK w h (r * (w + 1) + c) e ∨ (c < w ∧ e = r * w + c)) := by
    by_cases q : w ≤ c
    · rw [if_pos ((nI_leI (by omega) (by omega)).mpr q)]
      exact ⟨σ, rfl, FG.rf, l.iff (fun e he => ⟨Or.inl, fun z => z.elim id (fun z => by omega)⟩)⟩
    · rw [if_neg (by rw [nI_leI (by omega) (by omega)]; exact q)]
      have e8 : f_X1_cellAt (nI r - nI 1) (nI c) σ = some (tI (if r = 0 then 99 else (r - 1) * w + c)) := by
        have := k_cellAt g (i := r) (j := c + 1) (by omega) (by omega)
        rw [dI_s, Nat.add_sub_cancel] at this
        rw [dI_0, this]
        by_cases q2 : r = 0
        · rw [if_pos q2, if_neg (by omega)]
        · rw [if_neg q2, if_pos (by omega)]
      rw [e8]
      simp only [ob]
      obtain ⟨p1, p2, p3, p4, p5⟩ := posH g.1 hr (show c < w by omega)
      obtain ⟨σ', e', f', l'⟩ := k_layEdge l p1
      rw [p2, p3, p4, p5] at e'
      have hif : (if r < h ∧ c < w then r * w + c else 99) = (if r < h then r * w + c else 99) := by
        by_cases q2 : r < h
        · rw [if_pos q2, if_pos (by omega)]
        · rw [if_neg q2, if_neg (by omega)]
      rw [nI_mul, nI_add, nI_add, hif, e']
      exact ⟨σ', rfl, f', l'.iff (fun e he => ⟨fun z => z.elim Or.inl (fun z => Or.inr ⟨by omega, z⟩), fun z => z.elim Or.inl (fun z => Or.inr z.2)⟩)⟩
  obtain ⟨σ5, e5, f5, l5⟩ := key
  rw [e5]
  simp only [ob]
  have g5 := l5.1
  have fin : ∀ e, e < gE w h → (DK w h (r * (w + 1) + c + 1) e ↔ DK w h (r * (w + 1) + c) e ∨ ((c < w ∧ e = r * w + c) ∨ (r < h ∧ e = (h + 1) * w + (r * (w + 1) + c)))) := by
    intro e he
    rw [← posE g.1 hr hc he]
    unfold DK
    omega
  rw [g5.2.1, g5.2.2.1]
  by_cases q : h ≤ r
  · rw [if_pos ((nI_leI (by omega) (by omega)).mpr q)]
    refine ⟨σ5, rfl, f5, l5.iff (fun e he => ?_)⟩
    rw [fin e he]
    exact ⟨fun z => z.elim Or.inl (fun z => Or.inr (Or.inl z)), fun z => z.elim Or.inl (fun z => z.elim Or.inr (fun z => by omega))⟩
  · rw [if_neg (by rw [nI_leI (by omega) (by omega)]; exact q), nI_add, nI_mul, nI_add]
    have e8 : f_X1_cellAt (nI r) (nI c - nI 1) σ5 = some (tI (if c = 0 then 99 else r * w + (c - 1))) := by
      have := k_cellAt g5 (i := r + 1) (j := c) (by omega) (by omega)
      rw [dI_s, Nat.add_sub_cancel] at this
      rw [dI_0, this]
      by_cases q2 : c = 0
      · rw [if_pos q2, if_neg (by omega)]
      · rw [if_neg q2, if_pos (by omega)]
    rw [e8]
    simp only [ob]
    obtain ⟨p1, p2, p3, p4, p5⟩ := posV g.1 (show r < h by omega) hc
    obtain ⟨σ', e', f', l'⟩ := k_layEdge l5 p1
    rw [p2, p3, p4, p5] at e'
    have hif : (if r < h ∧ c < w then r * w + c else 99) = (if c < w then r * w + c else 99) := by
      by_cases q2 : c < w
      · rw [if_pos q2, if_pos (by omega)]
      · rw [if_neg q2, if_neg (by omega)]
    rw [nI_add, nI_add, hif, e']
    refine ⟨σ', rfl, f5.tr f', l'.iff (fun e he => ?_)⟩
    rw [fin e he]
    exact ⟨fun z => z.elim (fun z => z.elim Or.inl (fun z => Or.inr (Or.inl z))) (fun z => Or.inr (Or.inr ⟨by omega, z⟩)), fun z => z.elim (fun z => Or.inl (Or.inl z)) (fun z => z.elim (fun z => Or.inl (Or.inr z)) (fun z => Or.inr z.2))⟩
theorem k_lay145 {w h r : Nat} (hr : r ≤ h) : ∀ (n c : Nat) (σ : vSt), c ≤ w + 1 → w + 1 < c + n → LI σ w h (DK w h (r * (w + 1) + c)) → ∃ σ', f_X1_lay_145x37 (nI r) n (nI c) σ = some σ' ∧ FY σ σ' ∧ LI σ' w h (DK w h ((r + 1) * (w + 1))) := by
  intro n
  induction n with
  | zero => intro c σ h1 h2; omega
  | succ n ih =>
    intro c σ h1 h2 l
    obtain ⟨d1, d2, d3, d4⟩ := l.1.1
    rw [f_X1_lay_145x37.eq_2, l.1.2.1]
    by_cases hi : w < c
    · rw [if_pos ((nI_ltI (by omega) (by omega)).mpr hi)]
      refine ⟨σ, rfl, FG.rf, ?_⟩
      have : (r + 1) * (w + 1) = r * (w + 1) + c := by rw [Nat.succ_mul]; omega
      rw [this]; exact l
    · rw [if_neg (by rw [nI_ltI (by omega) (by omega)]; exact hi)]
      obtain ⟨σ1, e1, f1, l1⟩ := k_layFrom hr (by omega) l
      rw [e1]
      simp only [ob]
      rw [nI_1 c]
      obtain ⟨σ', e', f', l'⟩ := ih (c + 1) σ1 (by omega) (by omega) l1
      exact ⟨σ', e', f1.tr f', l'⟩
theorem k_lay134 {w h : Nat} : ∀ (n r : Nat) (σ : vSt), r ≤ h + 1 → h + 1 < r + n → LI σ w h (DK w h (r * (w + 1))) → ∃ σ', f_X1_lay_134 n (nI r) σ = some σ' ∧ FY σ σ' ∧ LI σ' w h (DK w h ((h + 1) * (w + 1))) := by
  intro n
  induction n with
  | zero => intro c σ h1 h2; omega
  | succ n ih =>
    intro r σ h1 h2 l
    obtain ⟨d1, d2, d3, d4⟩ := l.1.1
    rw [f_X1_lay_134.eq_2, l.1.2.2.1]
    by_cases hi : h < r
    · rw [if_pos ((nI_ltI (by omega) (by omega)).mpr hi)]
      refine ⟨σ, rfl, FG.rf, ?_⟩
      rw [show h + 1 = r by omega]; exact l
    · rw [if_neg (by rw [nI_ltI (by omega) (by omega)]; exact hi)]
      obtain ⟨σ1, e1, f1, l1⟩ := k_lay145 (show r ≤ h by omega) 600 0 σ (Nat.zero_le _) (by omega) l
      rw [e1]
      simp only [ob]
      rw [nI_1 r]
      obtain ⟨σ', e', f', l'⟩ := ih (r + 1) σ1 (by omega) (by omega) l1
      exact ⟨σ', e', f1.tr f', l'⟩
theorem k_lay85 : ∀ (n i : Nat) (σ : vSt), i ≤ 16 → 16 < i + n → (∀ j, j < i → gI σ 1 j = -1 ∧ gL σ 2 j = 0) → ∃ σ', f_X1_lay_85 n (nI i) σ = some σ' ∧ FG (fun q _ => q = 1) (fun q _ => q = 2) σ σ' ∧ ∀ j, j < 16 → gI σ' 1 j = -1 ∧ gL σ' 2 j = 0 := by
  intro n
  induction n with
  | zero => intro i σ h1 h2; omega
  | succ n ih =>
    intro i σ h1 h2 hz
    rw [f_X1_lay_85.eq_2]
    by_cases hi : 16 ≤ i
    · rw [if_pos ((nI_leI (by decide) (by omega)).mpr hi)]
      exact ⟨σ, rfl, FG.rf, fun j hj => hz j (by omega)⟩
    · rw [if_neg (by rw [nI_leI (by decide) (by omega)]; exact hi), if_pos (ig (by omega) (by omega)), if_pos (ig (by omega) (by omega)), nI_clamp (by omega), nI_1 i]
      have f0 : FG (fun q _ => q = 1) (fun q _ => q = 2) σ (sL (sI σ 1 i (-1 : Int32)) 2 i (0 : Int64)) := FG.wL (WL := fun q _ => q = 2) (FG.wI (WI := fun q _ => q = 1) FG.rf rfl) rfl
      obtain ⟨σ', e1, f1, z1⟩ := ih (i + 1) (sL (sI σ 1 i (-1 : Int32)) 2 i (0 : Int64)) (by omega) (by omega) (fun j hj => by
        rw [sL_I, sI_if, sL_if, sI_L_g]
        by_cases a : j = i
        · rw [if_pos ⟨rfl, a⟩, if_pos ⟨rfl, a⟩]; exact ⟨rfl, rfl⟩
        · rw [if_neg (fun z => a z.2), if_neg (fun z => a z.2)]; exact hz j (by omega))
      exact ⟨σ', e1, f0.tr f1, z1⟩
theorem k_lay113 : ∀ (n i : Nat) (σ : vSt), i ≤ 25 → 25 < i + n → (∀ j, j < i → gL σ 3 j = 0) → ∃ σ', f_X1_lay_113 n (nI i) σ = some σ' ∧ FG (fun _ _ => False) (fun q _ => q = 3) σ σ' ∧ ∀ j, j < 25 → gL σ' 3 j = 0 := by
  intro n
  induction n with
  | zero => intro i σ h1 h2; omega
  | succ n ih =>
    intro i σ h1 h2 hz
    rw [f_X1_lay_113.eq_2]
    by_cases hi : 25 ≤ i
    · rw [if_pos ((nI_leI (by decide) (by omega)).mpr hi)]
      exact ⟨σ, rfl, FG.rf, fun j hj => hz j (by omega)⟩
    · rw [if_neg (by rw [nI_leI (by decide) (by omega)]; exact hi), if_pos (ig (by omega) (by omega)), nI_clamp (by omega), nI_1 i]
      have f0 : FG (fun _ _ => False) (fun q _ => q = 3) σ (sL σ 3 i (0 : Int64)) := FG.wL (WL := fun q _ => q = 3) FG.rf rfl
      obtain ⟨σ', e1, f1, z1⟩ := ih (i + 1) (sL σ 3 i (0 : Int64)) (by omega) (by omega) (fun j hj => by
        rw [sL_if]
        by_cases a : j = i
        · rw [if_pos ⟨rfl, a⟩]
        · rw [if_neg (fun z => a z.2)]; exact hz j (by omega))
      exact ⟨σ', e1, f0.tr f1, z1⟩
def WGrI (q j : Nat) : Prop := q = 0 ∨ q = 1 ∨ q = 4 ∨ q = 5
def WGrL (q j : Nat) : Prop := q = 2 ∨ q = 3
theorem k_lay (σ : vSt) {w h : Nat} (hd : dim w h) : ∃ σ', f_X1_lay (nI w) (nI h) σ = some σ' ∧ FG WGrI WGrL σ σ' ∧ GD σ' w h (fun _ => -1) := by
  have h16 := gC_16 hd
  have h25 := gK_25 hd
  rw [k_lay0 hd]
  have f0 : FG WGrI WGrL σ (lay0 σ w h) := ((((FG.rf.wI (Or.inl rfl)).wI (Or.inl rfl)).wI (Or.inl rfl)).wI (Or.inl rfl)).wI (Or.inl rfl)
  have g0 : GF (lay0 σ w h) w h := by
    unfold lay0
    refine ⟨hd, ?_, ?_, ?_, ?_, ?_⟩
    · rw [sI_ne _ _ (Or.inr (by decide)), sI_ne _ _ (Or.inr (by decide)), sI_ne _ _ (Or.inr (by decide)), sI_ne _ _ (Or.inr (by decide)), sI_same]
    · rw [sI_ne _ _ (Or.inr (by decide)), sI_ne _ _ (Or.inr (by decide)), sI_ne _ _ (Or.inr (by decide)), sI_same]
    · rw [sI_ne _ _ (Or.inr (by decide)), sI_ne _ _ (Or.inr (by decide)), sI_same]
    · rw [sI_ne _ _ (Or.inr (by decide)), sI_same]
    · rw [sI_same]
  generalize lay0 σ w h = σ0 at f0 g0
  obtain ⟨σ1, e1, f1, z1⟩ := k_lay85 600 0 σ0 (by decide) (by decide) (fun j hj => absurd hj (Nat.not_lt_zero j))
  rw [e1]
  simp only [ob]
  obtain ⟨σ2, e2, f2, z2⟩ := k_lay113 600 0 σ1 (by decide) (by decide) (fun j hj => absurd hj (Nat.not_lt_zero j))
  rw [e2]
  simp only [ob]
  have k2 : ∀ q j, q ≠ 1 → gI σ2 q j = gI σ0 q j := fun q j hq => by rw [f2.1 q j id, f1.1 q j hq]
  have g2 : GF σ2 w h := by
    obtain ⟨_, a1, a2, a3, a4, a5⟩ := g0
    exact ⟨hd, by rw [k2 0 5 (by decide), a1], by rw [k2 0 6 (by decide), a2], by rw [k2 0 7 (by decide), a3], by rw [k2 0 8 (by decide), a4], by rw [k2 0 9 (by decide), a5]⟩
  have l2 : LI σ2 w h (DK w h (0 * (w + 1))) := by
    refine ⟨g2, fun c hc e => ?_, fun k hk e => ?_, fun e he hD => ?_⟩
    · rw [f2.2 2 c (show ¬ (2 = 3) by decide), (z1 c (by omega)).2, bt_0]
      exact ⟨fun q => (by cases q), fun q => absurd q.2.1 (by unfold DK; omega)⟩
    · rw [z2 k (by omega), bt_0]
      exact ⟨fun q => (by cases q), fun q => absurd q.2.1 (by unfold DK; omega)⟩
    · exact absurd hD (by unfold DK; omega)
  obtain ⟨d1, d2, d3, d4⟩ := hd
  obtain ⟨σ3, e3, f3, l3⟩ := k_lay134 600 0 σ2 (Nat.zero_le _) (by omega) l2
  rw [e3]
  simp only [ob]
  refine ⟨σ3, rfl, ?_, l3.1, ⟨fun c hc e => ?_, fun k hk e => ?_⟩, fun k hk => ?_, fun e he s hs => ?_⟩
  · exact ((f0.tr (f1.mono (fun q j x => Or.inr (Or.inl x)) (fun q j x => Or.inl x))).tr (f2.mono (fun q j x => x.elim) (fun q j x => Or.inr x))).tr (f3.mono (fun q j x => Or.inr (Or.inr x)) (fun q j x => x))
  · rw [Bool.eq_iff_iff, l3.2.1 c hc e, decide_eq_true_iff]
    exact ⟨fun q => q.2.2, fun q => ⟨gArL_lt l3.1.1 hc q, by have := gEn_lt l3.1.1 (gArL_lt l3.1.1 hc q) (s := 0) (by decide); unfold DK; rw [Nat.mul_comm]; exact this, q⟩⟩
  · rw [Bool.eq_iff_iff, l3.2.2.1 k hk e, decide_eq_true_iff]
    exact ⟨fun q => q.2.2, fun q => ⟨gToL_lt l3.1.1 hk q, by have := gEn_lt l3.1.1 (gToL_lt l3.1.1 hk q) (s := 0) (by decide); unfold DK; rw [Nat.mul_comm]; exact this, q⟩⟩
  · rw [f3.1 1 k (fun z => by rcases z with z | z <;> omega), f2.1 1 k id, (z1 k hk).1]
  · exact l3.2.2.2 e he (by have := gEn_lt l3.1.1 he (s := 0) (by decide); unfold DK; rw [Nat.mul_comm]; exact this) s hs
