/-! THE CLASS: lay -/
theorem obs {α : Type} (x : Option α) : x = x.bind (fun s => some s) := by cases x <;> rfl
def lay0 (σ : vSt) (w h : Nat) : vSt := sI (sI (sI (sI (sI σ 0 5 (nI w)) 0 6 (nI h)) 0 7 (nI (gC w h))) 0 8 (nI (gK w h))) 0 9 (nI (gE w h))
theorem mm_dec : ∀ w, w < 5 → 1 ≤ w → (f_J9_min_7cf53 (nI 4) (nI w)).bind (fun v => f_J9_max_7cf53 (nI 1) v) = some (nI w) := by decide +kernel
theorem mn_dec : ∀ w, w < 5 → 1 ≤ w → f_J9_min_7cf53 (nI 4) (nI w) = some (nI w) := by decide +kernel
theorem mx_dec : ∀ w, w < 5 → 1 ≤ w → f_J9_max_7cf53 (nI 1) (nI w) = some (nI w) := by decide +kernel
theorem k_lay0 {σ : vSt} {w h : Nat} (hd : dim w h) : f_X1_lay (nI w) (nI h) σ = (f_X1_lay_85 600 (nI 0) (lay0 σ w h)).bind fun σ12 => (f_X1_lay_113 600 (nI 0) σ12).bind fun σ21 => (f_X1_lay_134 600 (nI 0) σ21).bind fun σ29 => some σ29 := by
  obtain ⟨d1, d2, d3, d4⟩ := hd
  unfold f_X1_lay
  rw [mn_dec w d2 d1]
  simp only [ob]
  rw [mx_dec w d2 d1]
  simp only [ob]
  rw [mn_dec h d4 d3]
  simp only [ob]
  rw [mx_dec h d4 d3]
  simp only [ob]
  have e5 : ∀ (s : vSt) (a : Int32) (j : Nat) (v : Int32), j ≠ 5 → gI (sI s 0 j v) 0 5 = gI s 0 5 := fun s a j v hj => sI_ne _ _ (Or.inr (Ne.symm hj))
  have r65 : ∀ (s : vSt) (v : Int32), gI (sI s 0 6 v) 0 5 = gI s 0 5 := fun s v => sI_ne _ _ (Or.inr (by decide))
  have r75 : ∀ (s : vSt) (v : Int32), gI (sI s 0 7 v) 0 5 = gI s 0 5 := fun s v => sI_ne _ _ (Or.inr (by decide))
  have r85 : ∀ (s : vSt) (v : Int32), gI (sI s 0 8 v) 0 5 = gI s 0 5 := fun s v => sI_ne _ _ (Or.inr (by decide))
  have r76 : ∀ (s : vSt) (v : Int32), gI (sI s 0 7 v) 0 6 = gI s 0 6 := fun s v => sI_ne _ _ (Or.inr (by decide))
  have r86 : ∀ (s : vSt) (v : Int32), gI (sI s 0 8 v) 0 6 = gI s 0 6 := fun s v => sI_ne _ _ (Or.inr (by decide))
  simp only [r65, r75, r85, r76, r86, sI_same, nI_mul, nI_add]
  rfl
/-- what is laid so far -/
def LI (σ : vSt) (w h : Nat) (D : Nat → Prop) : Prop := GF σ w h ∧ (∀ c, c < gC w h → ∀ e, bt (gL σ 2 c) e = true ↔ e < gE w h ∧ D e ∧ e ∈ gArL w h c) ∧ (∀ k, k < gK w h → ∀ e, bt (gL σ 3 k) e = true ↔ e < gE w h ∧ D e ∧ e ∈ gToL w h k) ∧ ∀ e, e < gE w h → D e → ∀ s, s < 2 → gI σ 5 (2 * e + s) = nI (gEn w h e s) ∧ gI σ 4 (2 * e + s) = tI (gCl w h e s)
def WYi (q j : Nat) : Prop := q = 4 ∨ q = 5
def WYl (q j : Nat) : Prop := q = 2 ∨ q = 3
def FY (σ σ' : vSt) : Prop := FG WYi WYl σ σ'
theorem FY.gf {σ σ' : vSt} {w h : Nat} (f : FY σ σ') (g : GF σ w h) : GF σ' w h := by
  obtain ⟨hd, a1, a2, a3, a4, a5⟩ := g
  have k : ∀ j, gI σ' 0 j = gI σ 0 j := fun j => f.1 0 j (fun z => by rcases z with z | z <;> omega)
  exact ⟨hd, by rw [k, a1], by rw [k, a2], by rw [k, a3], by rw [k, a4], by rw [k, a5]⟩
def ly2 (s : vSt) (z e : Nat) : vSt := if z = 99 then s else sL s 2 z (gL s 2 z ||| b1 e)
theorem ly2_I (s : vSt) (z e q j : Nat) : gI (ly2 s z e) q j = gI s q j := by
  unfold ly2
  by_cases h : z = 99
  · rw [if_pos h]
  · rw [if_neg h, sL_I]
theorem ly2_L (s : vSt) (z e q j : Nat) (hq : q ≠ 2) : gL (ly2 s z e) q j = gL s q j := by
  unfold ly2
  by_cases h : z = 99
  · rw [if_pos h]
  · rw [if_neg h, sL_if, if_neg (fun q2 => hq q2.1)]
theorem ly2_F (s : vSt) (z e : Nat) : FY s (ly2 s z e) := by
  unfold ly2
  by_cases h : z = 99
  · rw [if_pos h]; exact FG.rf
  · rw [if_neg h]; exact FG.rf.wL (Or.inl rfl)
theorem ly2_b {s : vSt} {z e c : Nat} (he : e < 64) (hc : c < 99) (d : Nat) : bt (gL (ly2 s z e) 2 c) d = true ↔ bt (gL s 2 c) d = true ∨ (d = e ∧ z = c) := by
  unfold ly2
  by_cases h : z = 99
  · rw [if_pos h]
    exact ⟨Or.inl, fun q => q.elim id (fun q => by omega)⟩
  · rw [if_neg h, sL_if]
    by_cases q : z = c
    · subst q
      rw [if_pos ⟨rfl, rfl⟩, bt_set he]
      by_cases a : d = e
      · rw [if_pos a]; simp [a]
      · rw [if_neg a]; simp [a]
    · rw [if_neg (fun x => q x.2.symm)]
      exact ⟨Or.inl, fun x => x.elim id (fun x => absurd x.2 q)⟩
theorem k_layCellB {σ : vSt} {w h : Nat} (g : GF σ w h) {x : Nat} (hx : x < gC w h ∨ x = 99) (e : Nat) {β : Type} (Z : vSt → Option β) : ((f_X1_hasCell (tI x) σ).bind fun v31 => ((if v31 = nI 0 then some σ else (if 0 ≤ (tI x).toInt ∧ (tI x).toInt < 16 then (if 0 ≤ (tI x).toInt ∧ (tI x).toInt < 16 then some (sL σ 2 (tI x).toNatClampNeg ((gL σ 2 (tI x).toNatClampNeg) ||| b1 e)) else none) else none)) : Option vSt).bind Z) = Z (ly2 σ x e) := by
  have h16 := gC_16 g.1
  unfold ly2
  rcases hx with hx | hx
  · rw [tI_n (by omega), k_hasCell g hx]
    simp only [ob]
    rw [if_neg (by decide), if_pos (ig (by omega) (by omega)), if_pos (ig (by omega) (by omega)), nI_clamp (by omega), if_neg (by omega)]
    rfl
  · subst hx
    rw [tI_99, k_hasCellN g]
    simp only [ob]
    rw [if_pos trivial, if_pos trivial]
    rfl
def ly1 (σ : vSt) (e a c x y : Nat) : vSt := sI (sI (sL (sL (sI (sI σ 5 (2 * e) (nI a)) 5 (2 * e + 1) (nI c)) 3 a (gL σ 3 a ||| b1 e)) 3 c (gL (sL σ 3 a (gL σ 3 a ||| b1 e)) 3 c ||| b1 e)) 4 (2 * e) (tI x)) 4 (2 * e + 1) (tI y)
theorem ly1_F (σ : vSt) (e a c x y : Nat) : FY σ (ly1 σ e a c x y) := (((((FG.rf.wI (Or.inr rfl)).wI (Or.inr rfl)).wL (Or.inr rfl)).wL (Or.inr rfl)).wI (Or.inl rfl)).wI (Or.inl rfl)
theorem k_layEdge {σ : vSt} {w h : Nat} {D : Nat → Prop} (li : LI σ w h D) {e : Nat} (he : e < gE w h) : ∃ σ', f_X1_layEdge (nI e) (nI (gEn w h e 0)) (nI (gEn w h e 1)) (tI (gCl w h e 0)) (tI (gCl w h e 1)) σ = some σ' ∧ FY σ σ' ∧ LI σ' w h (fun d => D d ∨ d = e) := by
  obtain ⟨g, l2, l3, l4⟩ := li
  have hd := g.1
  have h40 := gE_40 hd
  have h25 := gK_25 hd
  have ha := gEn_lt hd he (s := 0) (by decide)
  have hc := gEn_lt hd he (s := 1) (by decide)
  have hac := gEn_ne hd he
  have hx := gCl_or hd he (i := 0) (by decide)
  have hy := gCl_or hd he (i := 1) (by decide)
  have hE : f_X1_hasEdge (nI e) σ = some (nI 1) := by
    rcases k_hasEdge g (nI e) with ⟨e', _, _, q⟩ | ⟨q, _⟩
    · exact q
    · exact absurd rfl (q e he)
  have iA : ∀ c, c < gC w h → (e ∈ gArL w h c ↔ (gCl w h e 0 = c ∨ gCl w h e 1 = c)) := fun c hc2 => gArL_iff hd he hc2
  have iT : ∀ k, k < gK w h → (e ∈ gToL w h k ↔ (gEn w h e 0 = k ∨ gEn w h e 1 = k)) := fun k hk => gToL_iff hd hk he
  have s16 := gC_16 hd
  have hl45 : ∀ d, d < gE w h → d ≠ e → ∀ s, s < 2 → 2 * d + s ≠ 2 * e ∧ 2 * d + s ≠ 2 * e + 1 := fun d _ hne s hs => by omega
  generalize hA : gEn w h e 0 = a at *
  generalize hC : gEn w h e 1 = c at *
  generalize hX : gCl w h e 0 = x at *
  generalize hY : gCl w h e 1 = y at *
  have g1 := (ly1_F σ e a c x y).gf g
  unfold f_X1_layEdge
  rw [hE]
  simp only [ob]
  rw [if_neg (by decide), k_hasCorner g ha]
  simp only [ob]
  rw [if_neg (by decide), k_hasCorner g hc]
  simp only [ob]
  rw [if_neg (by decide)]
  simp only [nI_mul, nI_add]
  rw [if_pos (ig (by omega) (by omega)), if_pos (ig (by omega) (by omega)), if_pos (ig (by omega) (by omega)), if_pos (ig (by omega) (by omega)), if_pos (ig (by omega) (by omega)), if_pos (ig (by omega) (by omega)), if_pos (ig (by omega) (by omega)), if_pos (ig (by omega) (by omega))]
  simp only [nI_clamp (show 2 * e < 2 ^ 31 by omega), nI_clamp (show 2 * e + 1 < 2 ^ 31 by omega), nI_clamp (show a < 2 ^ 31 by omega), nI_clamp (show c < 2 ^ 31 by omega)]
  have sS : sI (sI (sL (sL (sI (sI σ 5 (2 * e) (nI a)) 5 (2 * e + 1) (nI c)) 3 a (gL (sI (sI σ 5 (2 * e) (nI a)) 5 (2 * e + 1) (nI c)) 3 a ||| o_lshl (1 : Int64) (nI e))) 3 c (gL (sL (sI (sI σ 5 (2 * e) (nI a)) 5 (2 * e + 1) (nI c)) 3 a (gL (sI (sI σ 5 (2 * e) (nI a)) 5 (2 * e + 1) (nI c)) 3 a ||| o_lshl (1 : Int64) (nI e))) 3 c ||| o_lshl (1 : Int64) (nI e))) 4 (2 * e) (tI x)) 4 (2 * e + 1) (tI y) = ly1 σ e a c x y := rfl
  rw [sS]
  generalize hs1 : ly1 σ e a c x y = s1 at *
  have k1 := k_layCellB g1 hx e (fun σ26 => (f_X1_hasCell (tI y) σ26).bind fun v31 => (if v31 = nI 0 then some σ26 else (if 0 ≤ (tI y).toInt ∧ (tI y).toInt < 16 then (if 0 ≤ (tI y).toInt ∧ (tI y).toInt < 16 then some (sL σ26 2 (tI y).toNatClampNeg ((gL σ26 2 (tI y).toNatClampNeg) ||| b1 e)) else none) else none)))
  have g2 : GF (ly2 s1 x e) w h := (ly2_F s1 x e).gf g1
  have k2 : ((f_X1_hasCell (tI y) (ly2 s1 x e)).bind fun v31 => (if v31 = nI 0 then some (ly2 s1 x e) else (if 0 ≤ (tI y).toInt ∧ (tI y).toInt < 16 then (if 0 ≤ (tI y).toInt ∧ (tI y).toInt < 16 then some (sL (ly2 s1 x e) 2 (tI y).toNatClampNeg ((gL (ly2 s1 x e) 2 (tI y).toNatClampNeg) ||| b1 e)) else none) else none))) = some (ly2 (ly2 s1 x e) y e) := by
    have := k_layCellB g2 hy e (fun s => some s)
    refine Eq.trans ?_ this
    exact congrArg _ (funext fun v => obs _)
  refine ⟨ly2 (ly2 s1 x e) y e, k1.trans k2, ?_, (ly2_F _ y e).gf g2, ?_, ?_, ?_⟩
  · rw [← hs1]
    exact ((ly1_F σ e a c x y).tr (ly2_F _ x e)).tr (ly2_F _ y e)
  · intro cc hcc d
    rw [ly2_b (by omega) (by omega), ly2_b (by omega) (by omega), ← hs1]
    have e2 : gL (ly1 σ e a c x y) 2 cc = gL σ 2 cc := by
      show gL (sL (sL σ 3 a (gL σ 3 a ||| b1 e)) 3 c (gL (sL σ 3 a (gL σ 3 a ||| b1 e)) 3 c ||| b1 e)) 2 cc = _
      rw [sL_if, if_neg (by omega), sL_if, if_neg (by omega)]
    rw [e2, l2 cc hcc d]
    constructor
    · rintro ((⟨q1, q2, q3⟩ | ⟨q1, q2⟩) | ⟨q1, q2⟩)
      · exact ⟨q1, Or.inl q2, q3⟩
      · subst q1; exact ⟨he, Or.inr rfl, (iA cc hcc).mpr (Or.inl q2)⟩
      · subst q1; exact ⟨he, Or.inr rfl, (iA cc hcc).mpr (Or.inr q2)⟩
    · rintro ⟨q1, q2 | q2, q3⟩
      · exact Or.inl (Or.inl ⟨q1, q2, q3⟩)
      · subst q2
        rcases (iA cc hcc).mp q3 with z | z
        · exact Or.inl (Or.inr ⟨rfl, z⟩)
        · exact Or.inr ⟨rfl, z⟩
  · intro k hk d
    rw [ly2_L _ _ _ _ _ (by decide), ly2_L _ _ _ _ _ (by decide), ← hs1]
    have e3 : bt (gL (ly1 σ e a c x y) 3 k) d = true ↔ bt (gL σ 3 k) d = true ∨ (d = e ∧ (a = k ∨ c = k)) := by
      show bt (gL (sL (sL σ 3 a (gL σ 3 a ||| b1 e)) 3 c (gL (sL σ 3 a (gL σ 3 a ||| b1 e)) 3 c ||| b1 e)) 3 k) d = true ↔ _
      have hne : c ≠ a := by omega
      rw [sL_if, sL_if, sL_if, if_neg (fun q : 3 = 3 ∧ c = a => hne q.2)]
      by_cases kc : k = c
      · subst kc
        rw [if_pos ⟨rfl, rfl⟩, bt_set (by omega)]
        by_cases de : d = e
        · rw [if_pos de]; simp [de]
        · rw [if_neg de]; simp [de]
      · rw [if_neg (fun q => kc q.2)]
        by_cases ka : k = a
        · subst ka
          rw [if_pos ⟨rfl, rfl⟩, bt_set (by omega)]
          by_cases de : d = e
          · rw [if_pos de]; simp [de]
          · rw [if_neg de]; simp [de]
        · rw [if_neg (fun q => ka q.2)]
          exact ⟨Or.inl, fun q => q.elim id (fun q => by rcases q.2 with z | z; exact absurd z.symm ka; exact absurd z.symm kc)⟩
    rw [e3, l3 k hk d]
    constructor
    · rintro (⟨q1, q2, q3⟩ | ⟨q1, q2⟩)
      · exact ⟨q1, Or.inl q2, q3⟩
      · subst q1; exact ⟨he, Or.inr rfl, (iT k hk).mpr q2⟩
    · rintro ⟨q1, q2 | q2, q3⟩
      · exact Or.inl ⟨q1, q2, q3⟩
      · subst q2; exact Or.inr ⟨rfl, (iT k hk).mp q3⟩
  · intro d hdl hD s hs
    rw [ly2_I, ly2_I, ly2_I, ly2_I, ← hs1]
    have i5 : gI (ly1 σ e a c x y) 5 (2 * d + s) = if 2 * d + s = 2 * e + 1 then nI c else if 2 * d + s = 2 * e then nI a else gI σ 5 (2 * d + s) := by
      unfold ly1
      rw [sI_ne _ _ (Or.inl (by decide)), sI_ne _ _ (Or.inl (by decide)), sL_I, sL_I, sI_if, sI_if]
      simp
    have i4 : gI (ly1 σ e a c x y) 4 (2 * d + s) = if 2 * d + s = 2 * e + 1 then tI y else if 2 * d + s = 2 * e then tI x else gI σ 4 (2 * d + s) := by
      unfold ly1
      rw [sI_if, sI_if, sL_I, sL_I, sI_ne _ _ (Or.inl (by decide)), sI_ne _ _ (Or.inl (by decide))]
      simp
    rw [i5, i4]
    by_cases de : d = e
    · subst de
      rcases (show s = 0 ∨ s = 1 by omega) with rfl | rfl
      · rw [if_neg (by omega), if_pos (by omega), if_neg (by omega), if_pos (by omega), hA, hX]
        exact ⟨rfl, rfl⟩
      · rw [if_pos rfl, if_pos rfl, hC, hY]
        exact ⟨rfl, rfl⟩
    · obtain ⟨n1, n2⟩ := hl45 d hdl de s hs
      rw [if_neg n2, if_neg n1, if_neg n2, if_neg n1]
      exact l4 d hdl (hD.resolve_right de) s hs
