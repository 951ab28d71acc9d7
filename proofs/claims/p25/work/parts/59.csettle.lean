/-! THE CLASS'S BOARD: one edge settled -/
theorem nTo_um {w h k e v x : Nat} {mk : Nat → Nat} (hn : ¬ e ∈ gToL w h k ∨ (v ≠ x ∧ mk e ≠ x)) : nTo w h (um mk e v) k x = nTo w h mk k x := by
  unfold nTo
  refine List.countP_congr (fun d hd => ?_)
  rw [decide_eq_true_iff, decide_eq_true_iff]
  by_cases a : d = e
  · subst a
    rcases hn with z | ⟨z1, z2⟩
    · exact absurd hd z
    · rw [um_e]
      exact ⟨fun q => absurd q z1, fun q => absurd q z2⟩
  · rw [um_n a]
theorem nAr_um {w h k e v x : Nat} {mk : Nat → Nat} (hn : ¬ e ∈ gArL w h k) : nAr w h (um mk e v) k x = nAr w h mk k x := by
  unfold nAr
  refine List.countP_congr (fun d hd => ?_)
  rw [um_n (fun z => hn (by rw [← z]; exact hd))]
theorem CK_um {σ : vSt} {b w h : Nat} {cnt : Nat → Int32} {mk mk' : Nat → Nat} {c : Nat} (x : CK σ b w h cnt mk c) (hc : (∀ v, c < gC w h → nAr w h mk' c v = nAr w h mk c v) ∨ cnt c = -1) : CK σ b w h cnt mk' c := by
  unfold CK at x ⊢
  rcases hc with z | z
  · have e1 : c < gC w h → (badC w h cnt mk' c ↔ badC w h cnt mk c) := fun q => by unfold badC; rw [z 0 q, z 1 q]
    have e2 : c < gC w h → (unm w h cnt mk' c ↔ unm w h cnt mk c) := fun q => by unfold unm; rw [z 1 q]
    have e3 : ∀ r, c < gC w h → (dedC w h cnt mk' r c ↔ dedC w h cnt mk r c) := fun r q => by unfold dedC; rw [z 0 q, z 1 q]
    exact ⟨x.1.trans (and_congr_right (fun q => (e1 q).symm)), x.2.1.trans (and_congr_right (fun q => (e2 q).symm)), x.2.2.1.trans (and_congr_right (fun q => (e3 0 q).symm)), x.2.2.2.trans (and_congr_right (fun q => (e3 1 q).symm))⟩
  · have n1 := badC_no (w := w) (h := h) (mk := mk) z
    have n2 := badC_no (w := w) (h := h) (mk := mk') z
    have k : ∀ {A P Q : Prop} {y : Bool}, (y = true ↔ A ∧ P) → ¬ P → ¬ Q → (y = true ↔ A ∧ Q) := fun a p q => ⟨fun t => absurd (a.mp t).2 p, fun t => absurd t.2 q⟩
    exact ⟨k x.1 n1.1 n2.1, k x.2.1 n1.2.1 n2.2.1, k x.2.2.1 (n1.2.2 0) (n2.2.2 0), k x.2.2.2 (n1.2.2 1) (n2.2.2 1)⟩
theorem KK_um {σ : vSt} {b w h : Nat} {mk mk' : Nat → Nat} {k : Nat} (x : KK σ b w h mk k) (hc : ∀ v, k < gK w h → nTo w h mk' k v = nTo w h mk k v) : KK σ b w h mk' k := by
  unfold KK at x ⊢
  have e1 : k < gK w h → (badK w h mk' k ↔ badK w h mk k) := fun q => by unfold badK; rw [hc 0 q, hc 1 q]
  have e3 : ∀ r, k < gK w h → (dedK w h mk' r k ↔ dedK w h mk r k) := fun r q => by unfold dedK; rw [hc 0 q, hc 1 q]
  exact ⟨x.1.trans (and_congr_right (fun q => (e1 q).symm)), x.2.1.trans (and_congr_right (fun q => by rw [hc 1 q])), x.2.2.1.trans (and_congr_right (fun q => (e3 2 q).symm)), x.2.2.2.1.trans (and_congr_right (fun q => (e3 3 q).symm)), x.2.2.2.2.trans (and_congr_right (fun q => (e3 4 q).symm))⟩
theorem rg_back {w h : Nat} {mk mk' : Nat → Nat} (hm : ∀ d, d < gE w h → mk d = 1 → mk' d = 1) {f : Nat} (hfl : f < gE w h) (hf : mk f = 1) (hn : ∀ k, k < gK w h → Cn w h mk' k (gEn w h f 0) → nTo w h mk' k 1 = nTo w h mk k 1) (r : rgE w h mk' f) : rgE w h mk f := by
  refine ⟨hf, ⟨f, hfl, hf, CnI.rf⟩, fun k hk hc => ?_⟩
  have hc' : Cn w h mk' k (gEn w h f 0) := fun S hS => hc S (fun e he h1 => hS e he (hm e he h1))
  have := r.2.2 k hk hc'
  unfold lse at this ⊢
  rw [hn k hk hc'] at this
  exact this
theorem ring_thru {w h : Nat} {mk : Nat → Nat} {e f : Nat} (hd : dim w h) (hno : ¬ hasR w h mk) (he : e < gE w h) (hf : f < gE w h) (h0 : mk e = 0) (r : rgE w h (um mk e 1) f) : Cn w h (um mk e 1) (gEn w h f 0) (gEn w h e 0) := by
  apply Classical.byContradiction
  intro hc
  have hfe : f ≠ e := fun z => hc (by rw [z]; exact CnI.rf)
  have hed : Cn w h (um mk e 1) (gEn w h e 0) (gEn w h e 1) := CnI.ed he (um_e mk e 1)
  refine hno ⟨f, hf, rg_back (mk' := um mk e 1) (fun d _ h1 => ?_) hf (by have := r.1; rw [um_n hfe] at this; exact this) (fun k hk hk2 => nTo_um (Or.inl (fun z => ?_))) r⟩
  · by_cases a : d = e
    · rw [a, um_e]
    · rw [um_n a]; exact h1
  · rcases (gToL_iff hd hk he).mp z with q | q
    · rw [← q] at hk2; exact hc hk2.sy
    · rw [← q] at hk2; exact hc (hed.tr hk2).sy
theorem no_ring2 {w h : Nat} {mk : Nat → Nat} {e : Nat} (hno : ¬ hasR w h mk) (h0 : mk e = 0) : ¬ hasR w h (um mk e 2) := by
  rintro ⟨f, hf, r⟩
  have hfe : f ≠ e := fun z => by have := r.1; rw [z, um_e] at this; cases this
  refine hno ⟨f, hf, rg_back (mk' := um mk e 2) (fun d _ h1 => ?_) hf (by have := r.1; rw [um_n hfe] at this; exact this) (fun k hk hk2 => nTo_um (Or.inr ⟨by decide, by omega⟩)) r⟩
  rw [um_n (fun z => by rw [z] at h1; omega)]; exact h1
theorem RG_none {σ : vSt} {b w h : Nat} {cnt : Nat → Int32} {mk : Nat → Nat} (hno : ¬ hasR w h mk) (h8 : gL σ b 8 = 0) (h9 : gI σ b 9 = nI 0) : RG σ b w h cnt mk := by
  have hl : lst (gE w h) (badR w h cnt mk) = 99 := lst_no (fun j hj q => hno ⟨j, hj, q.1⟩)
  refine ⟨fun e => ?_, ?_⟩
  · rw [h8, bt_0, hl]
    constructor
    · intro q; cases q
    · rintro ⟨_, q, _⟩; exact absurd rfl q
  · rw [h9, pI_f]
    rintro ⟨e, he, r, _⟩
    exact hno ⟨e, he, r⟩
theorem RG_zero {σ : vSt} {b w h : Nat} {cnt : Nat → Int32} {mk : Nat → Nat} (r : RG σ b w h cnt mk) (hno : ¬ hasR w h mk) : gL σ b 8 = 0 ∧ gI σ b 9 = nI 0 := by
  have hl : lst (gE w h) (badR w h cnt mk) = 99 := lst_no (fun j hj q => hno ⟨j, hj, q.1⟩)
  constructor
  · refine bt_eq0.mpr (fun e => ?_)
    cases q : bt (gL σ b 8) e with
    | false => rfl
    | true => exact absurd hl ((r.1 e).mp q).2.1
  · rw [r.2, pI_f]
    rintro ⟨e, he, z, _⟩
    exact hno ⟨e, he, z⟩
theorem k_lac {σ : vSt} {b w h : Nat} {cnt : Nat → Int32} {mk : Nat → Nat} {P : Nat → Prop} {x : Nat} (g : GD σ w h cnt) (m : MB σ b w h mk) (hP : ∀ c, (gC w h ≤ c ∨ cnt c = -1 ∨ P c) → CK σ b w h cnt mk c) (hx : x < gC w h ∨ x = 99) : ∃ σ', f_X0_lookAtCell b (tI x) σ = some σ' ∧ Fz (WCell b) σ σ' ∧ ∀ c, (gC w h ≤ c ∨ cnt c = -1 ∨ P c ∨ c = x) → CK σ' b w h cnt mk c := by
  have h16 := gC_16 g.1.1
  rcases hx with hx | hx
  · rw [tI_n (by omega)]
    obtain ⟨σ', e1, f1, c1⟩ := k_lookAtCell g m hP hx (fun z => hP x (Or.inr (Or.inl z)))
    refine ⟨σ', e1, f1, fun c hc => c1 c ?_⟩
    rcases hc with q | q | q | q
    · exact Or.inl (Or.inl q)
    · exact Or.inl (Or.inr (Or.inl q))
    · exact Or.inl (Or.inr (Or.inr q))
    · exact Or.inr q
  · subst hx
    rw [tI_99, k_lookAtCellN g]
    refine ⟨σ, rfl, Fz.rf, fun c hc => hP c ?_⟩
    rcases hc with q | q | q | q
    · exact Or.inl q
    · exact Or.inr (Or.inl q)
    · exact Or.inr (Or.inr q)
    · exact Or.inl (by omega)
theorem bt_set {x : Int64} {e : Nat} (he : e < 64) (i : Nat) : bt (x ||| b1 e) i = if i = e then true else bt x i := by
  rw [bt_or, bt_b1 he]
  by_cases a : i = e
  · rw [if_pos a]; simp [a]
  · rw [if_neg a]; simp [a]
theorem bt_clr {x : Int64} {e : Nat} (he : e < 64) (i : Nat) : bt (x &&& (b1 e ^^^ (-1 : Int64))) i = if i = e then false else bt x i := by
  rw [bt_and, bt_compl, bt_b1 he]
  by_cases a : i = e
  · rw [if_pos a]; simp [a]
  · rw [if_neg a]
    by_cases c : i < 64
    · simp [a, c]
    · rw [bt_ge x (by omega)]; rfl
theorem k_settleEdge {σ : vSt} {b w h : Nat} {cnt : Nat → Int32} {mk : Nat → Nat} (hb : 6 ≤ b) (g : GD σ w h cnt) (s : SY σ b w h cnt mk) (hno : ¬ hasR w h mk) {e v : Nat} (he : e < gE w h) (h0 : mk e = 0) (hv : v = 1 ∨ v = 2) : ∃ σ', f_X0_settleEdge b (nI e) (nI v) σ = some σ' ∧ FB b 10 σ σ' ∧ SY σ' b w h cnt (um mk e v) := by
  have hd := g.1.1
  have h40 := gE_40 hd
  have h25 := gK_25 hd
  obtain ⟨sm, sc, sk, sr⟩ := s
  obtain ⟨z8, z9⟩ := RG_zero sr hno
  have hE : f_X1_hasEdge (nI e) σ = some (nI 1) := by
    rcases k_hasEdge g.1 (nI e) with ⟨e', _, _, q⟩ | ⟨q, _⟩
    · exact q
    · exact absurd rfl (q e he)
  unfold f_X0_settleEdge
  rw [hE]
  simp only [ob]
  rw [if_neg (by decide)]
  have key : ∃ σ7, ((if nI v = nI 1 then some (sL (sL σ b 3 ((gL σ b 3) &&& (o_lshl (1 : Int64) (nI e) ^^^ (-1 : Int64)))) b 2 ((gL (sL σ b 3 ((gL σ b 3) &&& (o_lshl (1 : Int64) (nI e) ^^^ (-1 : Int64)))) b 2) ||| o_lshl (1 : Int64) (nI e))) else some (sL σ b 3 ((gL σ b 3) &&& (o_lshl (1 : Int64) (nI e) ^^^ (-1 : Int64))))) : Option vSt) = some σ7 ∧ MB σ7 b w h (um mk e v) ∧ (∀ q j, gI σ7 q j = gI σ q j) ∧ (∀ q j, ¬ (q = b ∧ (j = 2 ∨ j = 3)) → gL σ7 q j = gL σ q j) := by
    rcases hv with rfl | rfl
    · rw [if_pos rfl]
      refine ⟨_, rfl, ⟨fun i => ?_, fun i => ?_⟩, fun q j => rfl, fun q j hq => ?_⟩
      · rw [sL_if, if_pos ⟨rfl, rfl⟩, sL_if, if_neg (by omega)]
        show bt (gL σ b 2 ||| b1 e) i = _
        rw [bt_set (by omega), sm.1]
        by_cases a : i = e
        · subst a
          rw [if_pos rfl, um_e]; simp [he]
        · rw [if_neg a, um_n a]
      · rw [sL_if, if_neg (by omega), sL_if, if_pos ⟨rfl, rfl⟩]
        show bt (gL σ b 3 &&& (b1 e ^^^ (-1 : Int64))) i = _
        rw [bt_clr (by omega), sm.2]
        by_cases a : i = e
        · subst a
          rw [if_pos rfl, um_e]; simp
        · rw [if_neg a, um_n a]
      · rw [sL_if, if_neg (by omega), sL_if, if_neg (by omega)]
    · rw [if_neg (by decide)]
      refine ⟨_, rfl, ⟨fun i => ?_, fun i => ?_⟩, fun q j => rfl, fun q j hq => ?_⟩
      · rw [sL_if, if_neg (by omega), sm.1]
        by_cases a : i = e
        · subst a
          rw [um_e, h0]; simp
        · rw [um_n a]
      · rw [sL_if, if_pos ⟨rfl, rfl⟩]
        show bt (gL σ b 3 &&& (b1 e ^^^ (-1 : Int64))) i = _
        rw [bt_clr (by omega), sm.2]
        by_cases a : i = e
        · subst a
          rw [if_pos rfl, um_e]; simp
        · rw [if_neg a, um_n a]
      · rw [sL_if, if_neg (by omega)]
  obtain ⟨σ7, e7, m7, i7, l7⟩ := key
  rw [e7]
  simp only [ob]
  have f7 : FB b 10 σ σ7 := ⟨fun q j _ _ => i7 q j, fun q j hq => l7 q j (fun z => hq z.1), fun j _ => i7 b j⟩
  have g7 := g.fb hb f7
  have n2 : nI 2 * nI e = nI (2 * e) := nI_mul 2 e
  have n3 : nI (2 * e) + nI 1 = nI (2 * e + 1) := nI_add _ _
  rw [n2]
  simp only [n3]
  rw [if_pos (ig (by omega) (by omega)), nI_clamp (by omega), nI_clamp (by omega), show gI σ7 4 (2 * e) = tI (gCl w h e 0) from (g7.2.2.2 e he 0 (by decide)).2]
  have c7 : ∀ c, (gC w h ≤ c ∨ cnt c = -1 ∨ (c ≠ gCl w h e 0 ∧ c ≠ gCl w h e 1)) → CK σ7 b w h cnt (um mk e v) c := by
    intro c hc
    refine CK_um (CK_same (sc c) (i7 _ _) (i7 _ _) (i7 _ _) (i7 _ _)) ?_
    rcases hc with q | q | q
    · exact Or.inl (fun v hv2 => by omega)
    · exact Or.inr q
    · exact Or.inl (fun v hv2 => nAr_um (fun z => by
        rcases (gArL_iff hd he hv2).mp z with t | t
        · exact q.1 t.symm
        · exact q.2 t.symm))
  obtain ⟨σ8, e8, f8, c8⟩ := k_lac g7 m7 c7 (gCl_or hd he (i := 0) (by decide))
  rw [e8]
  simp only [ob]
  have fb8 : FB b 10 σ7 σ8 := f8.fb (fun q j x => by rcases x with x | x <;> omega)
  have g8 := g7.fb hb fb8
  have m8 : MB σ8 b w h (um mk e v) := MB_same m7 (by unfold gL; rw [f8.2]) (by unfold gL; rw [f8.2])
  rw [if_pos (ig (by omega) (by omega)), (g8.2.2.2 e he 1 (by decide)).2]
  obtain ⟨σ9, e9, f9, c9⟩ := k_lac (P := fun c => (c ≠ gCl w h e 0 ∧ c ≠ gCl w h e 1) ∨ c = gCl w h e 0) g8 m8 c8 (gCl_or hd he (i := 1) (by decide))
  rw [e9]
  simp only [ob]
  have fb9 : FB b 10 σ8 σ9 := f9.fb (fun q j x => by rcases x with x | x <;> omega)
  have g9 := g8.fb hb fb9
  have m9 : MB σ9 b w h (um mk e v) := MB_same m8 (by unfold gL; rw [f9.2]) (by unfold gL; rw [f9.2])
  have c9' : ∀ c, CK σ9 b w h cnt (um mk e v) c := fun c => c9 c (by
    by_cases x0 : c = gCl w h e 0
    · exact Or.inr (Or.inr (Or.inl (Or.inr x0)))
    · by_cases x1 : c = gCl w h e 1
      · exact Or.inr (Or.inr (Or.inr x1))
      · exact Or.inr (Or.inr (Or.inl (Or.inl ⟨x0, x1⟩))))
  rw [if_pos (ig (by omega) (by omega)), show gI σ9 5 (2 * e) = nI (gEn w h e 0) from (g9.2.2.2 e he 0 (by decide)).1]
  have i9 : ∀ q j, ¬ WCell b q j → gI σ9 q j = gI σ q j := fun q j hw => by rw [f9.1 q j hw, f8.1 q j hw, i7]
  have k9 : ∀ k, (k ≠ gEn w h e 0 ∧ k ≠ gEn w h e 1) → KK σ9 b w h (um mk e v) k := by
    intro k hk
    refine KK_um (KK_same (sk k) ?_ ?_ ?_ ?_ ?_) (fun v hv2 => nTo_um (Or.inl (fun z => by
        rcases (gToL_iff hd hv2 he).mp z with t | t
        · exact hk.1 t.symm
        · exact hk.2 t.symm)))
    all_goals exact i9 _ _ (fun z => by rcases z with z | z <;> omega)
  obtain ⟨σ10, e10, f10, k10⟩ := k_lookAtCorner g9 m9 k9 (gEn_lt hd he (s := 0) (by decide))
  rw [e10]
  simp only [ob]
  have fb10 : FB b 10 σ9 σ10 := f10.fb (fun q j x => by rcases x with x | x <;> omega)
  have g10 := g9.fb hb fb10
  have m10 : MB σ10 b w h (um mk e v) := MB_same m9 (by unfold gL; rw [f10.2]) (by unfold gL; rw [f10.2])
  rw [if_pos (ig (by omega) (by omega)), (g10.2.2.2 e he 1 (by decide)).1]
  obtain ⟨σ11, e11, f11, k11⟩ := k_lookAtCorner g10 m10 k10 (gEn_lt hd he (s := 1) (by decide))
  rw [e11]
  simp only [ob]
  have fb11 : FB b 10 σ10 σ11 := f11.fb (fun q j x => by rcases x with x | x <;> omega)
  have g11 := g10.fb hb fb11
  have m11 : MB σ11 b w h (um mk e v) := MB_same m10 (by unfold gL; rw [f11.2]) (by unfold gL; rw [f11.2])
  have k11' : ∀ k, KK σ11 b w h (um mk e v) k := fun k => k11 k (by
    by_cases x0 : k = gEn w h e 0
    · exact Or.inl (Or.inr x0)
    · by_cases x1 : k = gEn w h e 1
      · exact Or.inr x1
      · exact Or.inl (Or.inl ⟨x0, x1⟩))
  have c11 : ∀ c, CK σ11 b w h cnt (um mk e v) c := by
    intro c
    refine CK_same (c9' c) ?_ ?_ ?_ ?_ <;> rw [f11.1 _ _ (fun z => by rcases z with z | z <;> omega), f10.1 _ _ (fun z => by rcases z with z | z <;> omega)]
  have fall : FB b 10 σ σ11 := (((f7.tr fb8).tr fb9).tr fb10).tr fb11
  have h8 : gL σ11 b 8 = 0 := by
    have : gL σ11 b 8 = gL σ7 b 8 := by unfold gL; rw [f11.2, f10.2, f9.2, f8.2]
    rw [this, l7 b 8 (by omega), z8]
  have h9 : gI σ11 b 9 = nI 0 := by
    rw [f11.1 _ _ (fun z => by rcases z with z | z <;> omega), f10.1 _ _ (fun z => by rcases z with z | z <;> omega), i9 _ _ (fun z => by rcases z with z | z <;> omega), z9]
  have s11 : S1 σ11 b w h cnt (um mk e v) := ⟨g11, m11, c11, k11'⟩
  rcases hv with rfl | rfl
  · rw [if_pos rfl]
    obtain ⟨v2, e12, hv0⟩ := k_way1 g11 m11 he
    have hv2 : ∀ d, bt v2 d = true ↔ d < gE w h ∧ wayP w h (um mk e 1) e d := fun d => by
      rw [hv0 d]
      exact ⟨fun q => ⟨q.1, q.2.2⟩, fun q => ⟨q.1, um_e mk e 1, q.2⟩⟩
    rw [show o_lshl (1 : Int64) (nI e) = b1 e from rfl, e12]
    simp only [ob]
    have thru : ∀ d, d < gE w h → rgE w h (um mk e 1) d → wayP w h (um mk e 1) d e ∧ wayP w h (um mk e 1) e d := fun d hdl r => by
      have := ring_thru hd hno he hdl h0 r
      exact ⟨⟨um_e mk e 1, this.sy⟩, r.1, this⟩
    rcases k_lookAtWay s11 he (um_e mk e 1) hv2 with ⟨c1, c2⟩ | ⟨c1, c3, c2⟩ | ⟨c1, c3, c2⟩ | ⟨c1, c3, c2⟩
    · rw [c2]
      simp only [ob]
      refine ⟨σ11, rfl, fall, m11, c11, k11', RG_none ?_ h8 h9⟩
      rintro ⟨d, hdl, r⟩
      exact c1 (rgE_way (thru d hdl r).1 r)
    · rw [c2]
      simp only [ob]
      have s12 := s11.fr hb (FR.rf.wI (σ := σ11) (v := nI 1))
      have nob : ∀ d, d < gE w h → ¬ badR w h cnt (um mk e 1) d := fun d hdl q => c3 (badR_way (thru d hdl q.1).1 q)
      refine ⟨_, rfl, fall.tr FR.rf.wI.fb, s12.2.1, s12.2.2.1, s12.2.2.2, fun d => ?_, ?_⟩
      · rw [sI_L_g, h8, bt_0, lst_no nob]
        constructor
        · intro q; cases q
        · rintro ⟨_, q, _⟩; exact absurd rfl q
      · rw [sI_same, pI_t]
        exact ⟨e, he, c1, c3⟩
    · rw [c2]
      simp only [ob]
      have s12 := s11.fr hb (FR.rf.wL (σ := σ11) (v := v2))
      have hl : lst (gE w h) (badR w h cnt (um mk e 1)) ≠ 99 := fun q => (lst_99 (by omega)).mp q e he c1
      obtain ⟨hl1, hl2⟩ := lst_sat hl
      have tl := (thru _ hl1 hl2.1).2
      refine ⟨_, rfl, fall.tr FR.rf.wL.fb, s12.2.1, s12.2.2.1, s12.2.2.2, fun d => ?_, ?_⟩
      · rw [sL_if, if_pos ⟨rfl, rfl⟩, hv2]
        exact ⟨fun q => ⟨q.1, hl, q.2.1, q.2.2.tr tl.2.sy⟩, fun q => ⟨q.1, q.2.2.1, q.2.2.2.tr tl.2⟩⟩
      · rw [sL_I, h9, pI_f]
        rintro ⟨d, hdl, r, nb⟩
        exact nb (badR_way (thru d hdl r).2 c1)
    · exact absurd h8 c3
  · rw [if_neg (by decide)]
    exact ⟨σ11, rfl, fall, m11, c11, k11', RG_none (no_ring2 hno h0) h8 h9⟩
