/-! THE CLASS'S BOARD: begin -/
def SY (σ : vSt) (b w h : Nat) (cnt : Nat → Int32) (mk : Nat → Nat) : Prop := MB σ b w h mk ∧ (∀ c, CK σ b w h cnt mk c) ∧ (∀ k, KK σ b w h mk k) ∧ RG σ b w h cnt mk
theorem badC_no {w h : Nat} {cnt : Nat → Int32} {mk : Nat → Nat} {c : Nat} (hm : cnt c = -1) : ¬ badC w h cnt mk c ∧ ¬ unm w h cnt mk c ∧ ∀ r, ¬ dedC w h cnt mk r c := by
  refine ⟨fun q => q.1 hm, fun q => q.1 hm, fun r q => ?_⟩
  have a1 := nAr_le w h mk c 1
  have a0 := nAr_le w h mk c 0
  have := q.1
  rw [hm] at this
  refine nI_nem1 ?_ this.symm
  split <;> omega
theorem CK_z {σ : vSt} {b w h : Nat} {cnt : Nat → Int32} {mk : Nat → Nat} {c : Nat} (h4 : bi (gI σ b 4) c = false) (h5 : bi (gI σ b 5) c = false) (h6 : bi (gI σ (b + 1) 0) c = false) (h7 : bi (gI σ (b + 1) 1) c = false) (hc : gC w h ≤ c ∨ cnt c = -1) : CK σ b w h cnt mk c := by
  unfold CK
  rw [h4, h5, h6, h7]
  have no : ∀ P : Prop, (cnt c = -1 → ¬ P) → (false = true ↔ c < gC w h ∧ P) := by
    intro P hP
    constructor
    · intro q; cases q
    · rintro ⟨q1, q2⟩
      rcases hc with z | z
      · omega
      · exact absurd q2 (hP z)
  exact ⟨no _ (fun z => (badC_no z).1), no _ (fun z => (badC_no z).2.1), no _ (fun z => (badC_no z).2.2 0), no _ (fun z => (badC_no z).2.2 1)⟩
theorem KK_z {σ : vSt} {b w h : Nat} {mk : Nat → Nat} {k : Nat} (h4 : bi (gI σ b 6) k = false) (h5 : bi (gI σ b 7) k = false) (h6 : ∀ r, 2 ≤ r → r < 5 → bi (gI σ (b + 1) r) k = false) (hc : gK w h ≤ k) : KK σ b w h mk k := by
  unfold KK
  rw [h4, h5, h6 2 (by decide) (by decide), h6 3 (by decide) (by decide), h6 4 (by decide) (by decide)]
  have no : ∀ P : Prop, (false = true ↔ k < gK w h ∧ P) := by
    intro P
    constructor
    · intro q; cases q
    · rintro ⟨q1, q2⟩; omega
  exact ⟨no _, no _, no _, no _, no _⟩
def WRd (b q j : Nat) : Prop := q = b + 1 ∧ j < 5
theorem k_begin33 {b : Nat} : ∀ (n i : Nat) (σ : vSt), i ≤ 5 → 5 < i + n → (∀ j, j < i → gI σ (b + 1) j = nI 0) → ∃ σ', f_X0_begin_33 b n (nI i) σ = some σ' ∧ Fz (WRd b) σ σ' ∧ ∀ j, j < 5 → gI σ' (b + 1) j = nI 0 := by
  intro n
  induction n with
  | zero => intro i σ h1 h2; omega
  | succ n ih =>
    intro i σ h1 h2 hz
    rw [f_X0_begin_33.eq_2]
    by_cases hi : 5 ≤ i
    · rw [if_pos ((nI_leI (by decide) (by omega)).mpr hi)]
      exact ⟨σ, rfl, Fz.rf, fun j hj => hz j (by omega)⟩
    · rw [if_neg (by rw [nI_leI (by decide) (by omega)]; exact hi), if_pos (ig (by omega) (by omega)), nI_clamp (by omega), nI_1 i]
      obtain ⟨σ', e1, f1, z1⟩ := ih (i + 1) (sI σ (b + 1) i (nI 0)) (by omega) (by omega) (fun j hj => by
        by_cases a : j = i
        · rw [a, sI_same]
        · rw [sI_ne _ _ (Or.inr a)]; exact hz j (by omega))
      exact ⟨σ', e1, (Fz.rf.wr ⟨rfl, by omega⟩).tr f1, z1⟩
theorem k_begin56 {b w h : Nat} {cnt : Nat → Int32} {mk : Nat → Nat} (hb : 6 ≤ b) : ∀ (n i : Nat) (σ : vSt), i ≤ gC w h → gC w h < i + n → GD σ w h cnt → MB σ b w h mk → (∀ c, (c < i ∨ gC w h ≤ c ∨ cnt c = -1) → CK σ b w h cnt mk c) → ∃ σ', f_X0_begin_56 b n (nI i) σ = some σ' ∧ Fz (WCell b) σ σ' ∧ ∀ c, CK σ' b w h cnt mk c := by
  intro n
  induction n with
  | zero => intro i σ h1 h2; omega
  | succ n ih =>
    intro i σ h1 h2 g m hP
    have h16 := gC_16 g.1.1
    rw [f_X0_begin_56.eq_2, g.1.2.2.2.1]
    by_cases hi : gC w h ≤ i
    · rw [if_pos ((nI_leI (by omega) (by omega)).mpr hi)]
      exact ⟨σ, rfl, Fz.rf, fun c => hP c (by omega)⟩
    · rw [if_neg (by rw [nI_leI (by omega) (by omega)]; exact hi), nI_1 i]
      obtain ⟨σ1, e1, f1, c1⟩ := k_lookAtCell g m hP (show i < gC w h by omega) (fun z => hP i (Or.inr (Or.inr z)))
      rw [e1]
      simp only [ob]
      obtain ⟨σ', e2, f2, c2⟩ := ih (i + 1) σ1 (by omega) (by omega) (g.fb (n := 10) hb (f1.fb (fun q j x => by rcases x with x | x <;> omega))) (MB_same m (by unfold gL; rw [f1.2]) (by unfold gL; rw [f1.2])) (fun c hc => c1 c (by
        rcases hc with q | q
        · rcases Nat.lt_or_ge c i with z | z
          · exact Or.inl (Or.inl z)
          · exact Or.inr (by omega)
        · exact Or.inl (Or.inr q)))
      exact ⟨σ', e2, f1.tr f2, c2⟩
theorem k_begin83 {b w h : Nat} {cnt : Nat → Int32} {mk : Nat → Nat} (hb : 6 ≤ b) : ∀ (n i : Nat) (σ : vSt), i ≤ gK w h → gK w h < i + n → GD σ w h cnt → MB σ b w h mk → (∀ c, (c < i ∨ gK w h ≤ c) → KK σ b w h mk c) → ∃ σ', f_X0_begin_83 b n (nI i) σ = some σ' ∧ Fz (WCor b) σ σ' ∧ ∀ c, KK σ' b w h mk c := by
  intro n
  induction n with
  | zero => intro i σ h1 h2; omega
  | succ n ih =>
    intro i σ h1 h2 g m hP
    have h16 := gK_25 g.1.1
    rw [f_X0_begin_83.eq_2, g.1.2.2.2.2.1]
    by_cases hi : gK w h ≤ i
    · rw [if_pos ((nI_leI (by omega) (by omega)).mpr hi)]
      exact ⟨σ, rfl, Fz.rf, fun c => hP c (by omega)⟩
    · rw [if_neg (by rw [nI_leI (by omega) (by omega)]; exact hi), nI_1 i]
      obtain ⟨σ1, e1, f1, c1⟩ := k_lookAtCorner g m hP (show i < gK w h by omega)
      rw [e1]
      simp only [ob]
      obtain ⟨σ', e2, f2, c2⟩ := ih (i + 1) σ1 (by omega) (by omega) (g.fb (n := 10) hb (f1.fb (fun q j x => by rcases x with x | x <;> omega))) (MB_same m (by unfold gL; rw [f1.2]) (by unfold gL; rw [f1.2])) (fun c hc => c1 c (by
        rcases hc with q | q
        · rcases Nat.lt_or_ge c i with z | z
          · exact Or.inl (Or.inl z)
          · exact Or.inr (by omega)
        · exact Or.inl (Or.inr q)))
      exact ⟨σ', e2, f1.tr f2, c2⟩
theorem k_begin {σ : vSt} {b w h : Nat} {cnt : Nat → Int32} {mk : Nat → Nat} (hb : 6 ≤ b) (g : GD σ w h cnt) {l1 l3 : Int64} (hl1 : ∀ e, bt l1 e = decide (e < gE w h ∧ mk e = 1)) (hl3 : ∀ e, bt l3 e = decide (e < gE w h ∧ mk e = 0)) : ∃ σ', f_X0_begin b l1 l3 σ = some σ' ∧ FB b 10 σ σ' ∧ SY σ' b w h cnt mk := by
  have hd := g.1.1
  have h16 := gC_16 hd
  have h25 := gK_25 hd
  unfold f_X0_begin
  simp only [ob]
  generalize hσ1 : sI (sI (sI (sI (sL (sL σ b 2 l1) b 3 l3) b 4 (nI 0)) b 5 (nI 0)) b 6 (nI 0)) b 7 (nI 0) = σ1
  have f1 : FB b 10 σ σ1 := by
    rw [← hσ1]
    exact ((((FB.rf.wL.wL).wI (Or.inl ⟨rfl, by decide⟩)).wI (Or.inl ⟨rfl, by decide⟩)).wI (Or.inl ⟨rfl, by decide⟩)).wI (Or.inl ⟨rfl, by decide⟩)
  have m1 : MB σ1 b w h mk := by
    rw [← hσ1]
    constructor
    · intro e
      show bt (gL (sL (sL σ b 2 l1) b 3 l3) b 2) e = _
      rw [sL_if, if_neg (by omega), sL_if, if_pos ⟨rfl, rfl⟩]; exact hl1 e
    · intro e
      show bt (gL (sL (sL σ b 2 l1) b 3 l3) b 3) e = _
      rw [sL_if, if_pos ⟨rfl, rfl⟩]; exact hl3 e
  have z1 : ∀ j, 4 ≤ j → j < 8 → gI σ1 b j = nI 0 := by
    intro j h1 h2
    rw [← hσ1]
    simp only [sI_if]
    by_cases a7 : j = 7
    · rw [if_pos ⟨trivial, a7⟩]
    rw [if_neg (fun z => a7 z.2)]
    by_cases a6 : j = 6
    · rw [if_pos ⟨trivial, a6⟩]
    rw [if_neg (fun z => a6 z.2)]
    by_cases a5 : j = 5
    · rw [if_pos ⟨trivial, a5⟩]
    rw [if_neg (fun z => a5 z.2), if_pos ⟨trivial, by omega⟩]
  clear hσ1
  obtain ⟨σ2, e2, f2, z2⟩ := k_begin33 (b := b) 600 0 σ1 (by decide) (by decide) (fun j hj => absurd hj (Nat.not_lt_zero j))
  rw [e2]
  simp only [ob]
  have fb2 : FB b 10 σ1 σ2 := f2.fb (fun q j x => Or.inr x.1)
  have g2 := (g.fb hb f1).fb hb fb2
  have m2 : MB σ2 b w h mk := MB_same m1 (by unfold gL; rw [f2.2]) (by unfold gL; rw [f2.2])
  have y2 : ∀ j, 4 ≤ j → j < 8 → gI σ2 b j = nI 0 := fun j h1 h2 => by rw [f2.1 b j (fun z => by have := z.1; omega)]; exact z1 j h1 h2
  obtain ⟨σ3, e3, f3, c3⟩ := k_begin56 (mk := mk) hb 600 0 σ2 (Nat.zero_le _) (by omega) g2 m2 (fun c hc => CK_z (by rw [y2 4 (by decide) (by decide), bi_0]) (by rw [y2 5 (by decide) (by decide), bi_0]) (by rw [z2 0 (by decide), bi_0]) (by rw [z2 1 (by decide), bi_0]) (hc.resolve_left (Nat.not_lt_zero c)))
  rw [e3]
  simp only [ob]
  have fb3 : FB b 10 σ2 σ3 := f3.fb (fun q j x => by rcases x with x | x <;> omega)
  have g3 := g2.fb hb fb3
  have m3 : MB σ3 b w h mk := MB_same m2 (by unfold gL; rw [f3.2]) (by unfold gL; rw [f3.2])
  have k3 : ∀ q j, ¬ WCell b q j → gI σ3 q j = gI σ2 q j := f3.1
  obtain ⟨σ4, e4, f4, c4⟩ := k_begin83 (mk := mk) hb 600 0 σ3 (Nat.zero_le _) (by omega) g3 m3 (fun c hc => KK_z (by rw [k3 b 6 (fun z => by rcases z with z | z <;> omega), y2 6 (by decide) (by decide), bi_0]) (by rw [k3 b 7 (fun z => by rcases z with z | z <;> omega), y2 7 (by decide) (by decide), bi_0]) (fun r hr1 hr2 => by rw [k3 (b + 1) r (fun z => by rcases z with z | z <;> omega), z2 r hr2, bi_0]) (by omega))
  rw [e4]
  simp only [ob]
  have fb4 : FB b 10 σ3 σ4 := f4.fb (fun q j x => by rcases x with x | x <;> omega)
  have g4 := g3.fb hb fb4
  have m4 : MB σ4 b w h mk := MB_same m3 (by unfold gL; rw [f4.2]) (by unfold gL; rw [f4.2])
  have s4 : S1 σ4 b w h cnt mk := by
    refine ⟨g4, m4, fun c => CK_same (c3 c) ?_ ?_ ?_ ?_, c4⟩ <;> exact f4.1 _ _ (fun z => by rcases z with z | z <;> omega)
  obtain ⟨σ5, e5, f5, r5⟩ := k_lookAtRings hb s4
  rw [e5]
  simp only [ob]
  have s5 := s4.fr hb f5
  exact ⟨σ5, rfl, (((f1.tr fb2).tr fb3).tr fb4).tr f5.fb, s5.2.1, s5.2.2.1, s5.2.2.2, r5⟩
