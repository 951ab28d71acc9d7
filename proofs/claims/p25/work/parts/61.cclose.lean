/-! THE CLASS: rule 5 -/
theorem k_meets2 {σ : vSt} {w h : Nat} {cnt : Nat → Int32} {mk : Nat → Nat} {l : Int64} (g : GD σ w h cnt) (hl : ∀ e, bt l e = decide (e < gE w h ∧ mk e = 1)) : ∀ (n i : Nat), i ≤ gC w h → gC w h < i + n → (f_X0_meetsCounts_2 l σ n (nI i) = some (.inr ()) ∧ ∀ c, i ≤ c → c < gC w h → cnt c = -1 ∨ nI (nAr w h mk c 1) = cnt c) ∨ (f_X0_meetsCounts_2 l σ n (nI i) = some (.inl (nI 0)) ∧ ¬ met w h cnt mk) := by
  have hd := g.1.1
  have h16 := gC_16 hd
  have h40 := gE_40 hd
  intro n
  induction n with
  | zero => intro i h1 h2; omega
  | succ n ih =>
    intro i h1 h2
    rw [f_X0_meetsCounts_2.eq_2, g.1.2.2.2.1]
    by_cases hi : gC w h ≤ i
    · rw [if_pos ((nI_leI (by omega) (by omega)).mpr hi)]
      exact Or.inl ⟨rfl, fun c a b => by omega⟩
    · have hC : i < gC w h := by omega
      rw [if_neg (by rw [nI_leI (by omega) (by omega)]; exact hi), if_pos (ig (by omega) (by omega)), nI_clamp (by omega), nI_1 i, g.2.2.1 i (by omega)]
      simp only [ob]
      by_cases hm : cnt i = -1
      · rw [if_pos hm]
        rcases ih (i + 1) (by omega) (by omega) with ⟨a, c⟩ | a
        · refine Or.inl ⟨a, fun k k1 k2 => ?_⟩
          by_cases hk : k = i
          · rw [hk]; exact Or.inl hm
          · exact c k (by omega) k2
        · exact Or.inr a
      · rw [if_neg hm, if_pos (ig (by omega) (by omega)), bitCount_eq, pc_mask (by omega) (gArL_nd hd hC) (fun e he => gArL_lt hd hC he) (g.2.1.1 i hC) hl]
        simp only [ob]
        by_cases hq : nI (nAr w h mk i 1) = cnt i
        · rw [if_pos (show nI ((gArL w h i).countP (fun e => decide (mk e = 1))) = cnt i from hq)]
          rcases ih (i + 1) (by omega) (by omega) with ⟨a, c⟩ | a
          · refine Or.inl ⟨a, fun k k1 k2 => ?_⟩
            by_cases hk : k = i
            · rw [hk]; exact Or.inr hq
            · exact c k (by omega) k2
          · exact Or.inr a
        · rw [if_neg (show ¬ nI ((gArL w h i).countP (fun e => decide (mk e = 1))) = cnt i from hq)]
          refine Or.inr ⟨rfl, fun z => ?_⟩
          rcases z i hC with t | t
          · exact hm t
          · exact hq t
theorem k_meets {σ : vSt} {b w h : Nat} {cnt : Nat → Int32} {mk : Nat → Nat} {l : Int64} (g : GD σ w h cnt) (hl : ∀ e, bt l e = decide (e < gE w h ∧ mk e = 1)) : f_X0_meetsCounts b l σ = some (pI (met w h cnt mk)) := by
  have h16 := gC_16 g.1.1
  unfold f_X0_meetsCounts
  rcases k_meets2 g hl 600 0 (Nat.zero_le _) (by omega) with ⟨a, c⟩ | ⟨a, c⟩
  · rw [a, pI_t (show met w h cnt mk from fun k hk => c k (Nat.zero_le _) hk)]; rfl
  · rw [a, pI_f c]; rfl
theorem k_drawnAtEnd {σ : vSt} {b w h : Nat} {cnt : Nat → Int32} (g : GD σ w h cnt) {e s : Nat} (he : e < gE w h) (hs : s < 2) : f_X0_drawnAtEnd b (nI e) (nI s) σ = some (gL σ 3 (gEn w h e s) &&& gL σ b 2) := by
  have hd := g.1.1
  have h40 := gE_40 hd
  have h25 := gK_25 hd
  have hk := gEn_lt hd he hs
  unfold f_X0_drawnAtEnd
  rw [nI_mul, nI_add, if_pos (ig (by omega) (by omega)), nI_clamp (by omega), (g.2.2.2 e he s hs).1]
  simp only [ob]
  rw [k_hasCorner g.1 hk]
  simp only [ob]
  rw [if_neg (by decide), if_pos (ig (by omega) (by omega)), nI_clamp (by omega)]
theorem Cn_loose {w h : Nat} {mk : Nat → Nat} {a c : Nat} (ha : ∀ e, ¬ aK w h mk a e) (hne : a ≠ c) : ¬ Cn w h mk a c := by
  intro x
  have := (x (fun k => k = a) (fun e he hm => ⟨fun q => absurd ⟨he, hm, Or.inl q⟩ (ha e), fun q => absurd ⟨he, hm, Or.inr q⟩ (ha e)⟩)).mp rfl
  exact hne this.symm
theorem k_close18 {σ : vSt} {b w h : Nat} {cnt : Nat → Int32} {mk : Nat → Nat} (g : GD σ w h cnt) (m : MB σ b w h mk) : ∀ (n i : Nat), i ≤ gE w h → gE w h < i + n → (lsF (ded5 w h cnt mk) i (gE w h - i) = 99 ∧ f_X0_findClosing_18 b σ n (nI i) = some (.inr ())) ∨ (lsF (ded5 w h cnt mk) i (gE w h - i) ≠ 99 ∧ f_X0_findClosing_18 b σ n (nI i) = some (.inl (nI 1, fnC b σ 5 (lsF (ded5 w h cnt mk) i (gE w h - i)) 99))) := by
  have hd := g.1.1
  have h40 := gE_40 hd
  intro n
  induction n with
  | zero => intro i h1 h2; omega
  | succ n ih =>
    intro i h1 h2
    rw [f_X0_findClosing_18.eq_2, g.1.2.2.2.2.2]
    by_cases hi : gE w h ≤ i
    · rw [if_pos ((nI_leI (by omega) (by omega)).mpr hi), show gE w h - i = 0 by omega]
      exact Or.inl ⟨rfl, rfl⟩
    · have hE : i < gE w h := by omega
      have hp := gEn_lt hd hE (s := 0) (by decide)
      have hq := gEn_lt hd hE (s := 1) (by decide)
      have hne := gEn_ne hd hE
      rw [if_neg (by rw [nI_leI (by omega) (by omega)]; exact hi)]
      simp only [ob]
      rw [k_drawnAtEnd g hE (by decide)]
      simp only [ob]
      rw [k_drawnAtEnd g hE (by decide)]
      simp only [ob]
      rw [nI_1 i]
      have skip : ¬ ded5 w h cnt mk i → (lsF (ded5 w h cnt mk) i (gE w h - i) = 99 ∧ f_X0_findClosing_18 b σ n (nI (i + 1)) = some (.inr ())) ∨ (lsF (ded5 w h cnt mk) i (gE w h - i) ≠ 99 ∧ f_X0_findClosing_18 b σ n (nI (i + 1)) = some (.inl (nI 1, fnC b σ 5 (lsF (ded5 w h cnt mk) i (gE w h - i)) 99))) := by
        intro q
        rw [lsF_n hE q]
        exact ih (i + 1) (by omega) (by omega)
      have hopen : gL σ b 3 &&& o_lshl (1 : Int64) (nI i) = 0 ↔ ¬ mk i = 0 := by
        show gL σ b 3 &&& b1 i = 0 ↔ _
        rw [bt_eq0]
        constructor
        · intro z h0
          have := z i
          rw [bt_and, bt_b1 (by omega), m.2] at this
          simp [hE, h0] at this
        · intro z e
          rw [bt_and, bt_b1 (by omega), m.2]
          by_cases a : e = i
          · subst a; simp [z]
          · simp [a]
      by_cases h0 : mk i = 0
      · rw [if_neg (by rw [lg0, hopen]; exact fun z => z h0)]
        by_cases hh : gL σ 3 (gEn w h i 0) &&& gL σ b 2 = 0
        · rw [if_pos ((lg0 _).mpr hh)]
          refine skip (fun q => Cn_loose (fun e x => ?_) (by omega) q.2.1)
          have := (bt_eq0.mp hh) e
          rw [(hr_iff g m hp e).mpr x] at this; cases this
        · rw [if_neg (by rw [lg0]; exact hh)]
          by_cases ht : gL σ 3 (gEn w h i 1) &&& gL σ b 2 = 0
          · rw [if_pos ((lg0 _).mpr ht)]
            refine skip (fun q => Cn_loose (fun e x => ?_) (by omega) q.2.1.sy)
            have := (bt_eq0.mp ht) e
            rw [(hr_iff g m hq e).mpr x] at this; cases this
          · rw [if_neg (by rw [lg0]; exact ht)]
            obtain ⟨v, e1, hv0⟩ := k_wayOf g m (gL σ 3 (gEn w h i 0) &&& gL σ b 2)
            obtain ⟨d0, _, x0⟩ := bt_ne0.mp hh
            have a0 := (hr_iff g m hp d0).mp x0
            obtain ⟨d1, _, x1⟩ := bt_ne0.mp ht
            have a1 := (hr_iff g m hq d1).mp x1
            have hv : ∀ e, bt v e = true ↔ (e < gE w h ∧ mk e = 1) ∧ Cn w h mk (gEn w h e 0) (gEn w h i 0) := by
              intro e
              rw [hv0 e]
              constructor
              · rintro ⟨y1, f, y2, y3, y4⟩
                exact ⟨y1, y4.sy.tr (cn_at ((hr_iff g m hp f).mp y2))⟩
              · rintro ⟨y1, y2⟩
                exact ⟨y1, d0, x0, ⟨a0.1, a0.2.1⟩, (cn_at a0).tr y2.sy⟩
            rw [e1]
            simp only [ob]
            have hcl : v &&& (gL σ 3 (gEn w h i 1) &&& gL σ b 2) = 0 ↔ ¬ Cn w h mk (gEn w h i 0) (gEn w h i 1) := by
              rw [bt_eq0]
              constructor
              · intro z q
                have := z d1
                rw [bt_and, x1, (hv d1).mpr ⟨⟨a1.1, a1.2.1⟩, (cn_at a1).tr q.sy⟩] at this
                cases this
              · intro z e
                cases y : bt (v &&& (gL σ 3 (gEn w h i 1) &&& gL σ b 2)) e with
                | false => rfl
                | true =>
                  rw [bt_and, Bool.and_eq_true] at y
                  exact absurd (((hv e).mp y.1).2.sy.tr (cn_at ((hr_iff g m hq e).mp y.2))) z
            by_cases hcn : Cn w h mk (gEn w h i 0) (gEn w h i 1)
            · rw [if_neg (by rw [lg0, hcl]; exact fun z => z hcn)]
              simp only [ob]
              rw [if_neg (by decide)]
              have hfull : v = gL σ b 2 ↔ fullK w h mk (gEn w h i 0) := by
                constructor
                · intro z e he hm
                  refine ((hv e).mp ?_).2
                  rw [z, m.1, decide_eq_true_iff]; exact ⟨he, hm⟩
                · intro z
                  apply bt_ext
                  intro e _
                  rw [Bool.eq_iff_iff, hv, m.1, decide_eq_true_iff]
                  exact ⟨fun q => q.1, fun q => ⟨q, z e q.1 q.2⟩⟩
              have hit : ded5 w h cnt mk i → (lsF (ded5 w h cnt mk) i (gE w h - i) = 99 ∧ ((f_X0_found b (nI 5) (nI i) (-1 : Int32) σ).bind fun σ33 => some (Sum.inl ((nI 1), σ33))) = (some (.inr ()) : Option ((Int32 × vSt) ⊕ Unit))) ∨ (lsF (ded5 w h cnt mk) i (gE w h - i) ≠ 99 ∧ ((f_X0_found b (nI 5) (nI i) (-1 : Int32) σ).bind fun σ33 => some (Sum.inl ((nI 1), σ33))) = (some (.inl (nI 1, fnC b σ 5 (lsF (ded5 w h cnt mk) i (gE w h - i)) 99)) : Option ((Int32 × vSt) ⊕ Unit))) := by
                intro q
                right
                rw [lsF_y hE q]
                exact ⟨by omega, rfl⟩
              by_cases hf : fullK w h mk (gEn w h i 0)
              · rw [if_pos ((lgE _ _).mpr (hfull.mpr hf)), k_meets (mk := um mk i 1) g (fun e => by
                  show bt (gL σ b 2 ||| b1 i) e = _
                  rw [bt_set (by omega), m.1]
                  by_cases a : e = i
                  · rw [if_pos a, a, um_e]; simp [hE]
                  · rw [if_neg a, um_n a])]
                simp only [ob]
                by_cases hme : met w h cnt (um mk i 1)
                · rw [if_neg (by rw [pI_0]; exact fun z => z hme)]
                  refine skip (fun q => ?_)
                  rcases q.2.2 with z | z
                  · exact z hme
                  · exact z hf
                · rw [if_pos (pI_0.mpr hme)]
                  exact hit ⟨h0, hcn, Or.inl hme⟩
              · rw [if_neg (by rw [lgE, hfull]; exact hf)]
                exact hit ⟨h0, hcn, Or.inr hf⟩
            · rw [if_pos ((lg0 _).mpr (hcl.mpr hcn))]
              simp only [ob]
              rw [if_pos trivial]
              exact skip (fun q => hcn q.2.1)
      · rw [if_pos ((lg0 _).mpr (hopen.mpr h0))]
        exact skip (fun q => h0 q.1)
theorem k_findClosing {σ : vSt} {b w h : Nat} {cnt : Nat → Int32} {mk : Nat → Nat} (g : GD σ w h cnt) (s : SY σ b w h cnt mk) : (¬ (fitA w h cnt mk ∧ ¬ hasR w h mk) ∧ f_X0_findClosing b σ = some (nI 0, σ)) ∨ ((fitA w h cnt mk ∧ ¬ hasR w h mk) ∧ ((dR w h cnt mk 5 = none ∧ f_X0_findClosing b σ = some (nI 0, σ)) ∨ ∃ r e p, dR w h cnt mk 5 = some (r, e, p) ∧ f_X0_findClosing b σ = some (nI 1, fnC b σ r e p))) := by
  have hd := g.1.1
  have h40 := gE_40 hd
  unfold f_X0_findClosing
  rw [k_fits hd s]
  simp only [ob]
  by_cases hf : fitA w h cnt mk
  · rw [if_neg (by rw [pI_0]; exact fun z => z hf), s.2.2.2.2]
    by_cases hr : hasR w h mk
    · rw [if_neg (by rw [pI_0]; exact fun z => z ((good_has hf).mpr hr))]
      exact Or.inl ⟨fun q => q.2 hr, rfl⟩
    · rw [if_pos (pI_0.mpr (fun z => hr ((good_has hf).mp z)))]
      have hdR : dR w h cnt mk 5 = nx (lst (gE w h) (ded5 w h cnt mk)) (5, lst (gE w h) (ded5 w h cnt mk), 99) := by
        unfold dR; exact (if_neg (by decide)).trans (if_neg (by decide))
      refine Or.inr ⟨⟨hf, hr⟩, ?_⟩
      rcases k_close18 (cnt := cnt) g s.1 600 0 (Nat.zero_le _) (by omega) with ⟨a, c⟩ | ⟨a, c⟩
      · rw [c]; exact Or.inl ⟨by rw [hdR]; exact if_pos a, rfl⟩
      · rw [c]; exact Or.inr ⟨5, _, 99, by rw [hdR]; exact if_neg a, rfl⟩
  · rw [if_pos (pI_0.mpr hf)]
    exact Or.inl ⟨fun q => hf q.1, rfl⟩
