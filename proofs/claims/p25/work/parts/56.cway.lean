/-! THE CLASS'S WAYS -/
theorem lgE (x y : Int64) : (lg_cmp x y = nI 0) ↔ x = y := by
  show (lg_cmp x y = 0) ↔ x = y
  unfold lg_cmp
  constructor
  · intro h
    split at h
    · cases h
    · split at h
      · assumption
      · cases h
  · intro h
    subst h
    rw [if_neg (by simp), if_pos rfl]
def aK (w h : Nat) (mk : Nat → Nat) (k e : Nat) : Prop := e < gE w h ∧ mk e = 1 ∧ (gEn w h e 0 = k ∨ gEn w h e 1 = k)
theorem cn_at {w h : Nat} {mk : Nat → Nat} {k e : Nat} (a : aK w h mk k e) : Cn w h mk (gEn w h e 0) k := by
  rcases a.2.2 with q | q
  · rw [q]; exact CnI.rf
  · rw [← q]; exact CnI.ed a.1 a.2.1
theorem hr_iff {σ : vSt} {b w h : Nat} {cnt : Nat → Int32} {mk : Nat → Nat} (g : GD σ w h cnt) (m : MB σ b w h mk) {k : Nat} (hk : k < gK w h) (e : Nat) : bt (gL σ 3 k &&& gL σ b 2) e = true ↔ aK w h mk k e := by
  rw [bt_and, m.1, g.2.1.2 k hk, Bool.and_eq_true, decide_eq_true_iff, decide_eq_true_iff]
  unfold aK
  constructor
  · rintro ⟨x, y, z⟩
    exact ⟨y, z, (gToL_iff g.1.1 hk y).mp x⟩
  · rintro ⟨y, z, x⟩
    exact ⟨(gToL_iff g.1.1 hk y).mpr x, y, z⟩
theorem k_pass {σ : vSt} {b w h : Nat} {cnt : Nat → Int32} {mk : Nat → Nat} (g : GD σ w h cnt) (m : MB σ b w h mk) {G : Nat → Prop} (hG : ∀ k e f, k < gK w h → aK w h mk k e → aK w h mk k f → G e → G f) : ∀ (n i : Nat) (v : Int64), i ≤ gK w h → gK w h < i + n → (∀ e, bt v e = true → G e) → ∃ v', f_X0_wayOf_23x12 b σ n v (nI i) = some v' ∧ (∀ e, bt v e = true → bt v' e = true) ∧ (∀ e, bt v' e = true → G e) ∧ (v' = v → ∀ k, i ≤ k → k < gK w h → ∀ e f, aK w h mk k e → aK w h mk k f → bt v e = true → bt v f = true) := by
  have hd := g.1.1
  have h25 := gK_25 hd
  intro n
  induction n with
  | zero => intro i v h1 h2; omega
  | succ n ih =>
    intro i v h1 h2 hv
    rw [f_X0_wayOf_23x12.eq_2, g.1.2.2.2.2.1]
    by_cases hi : gK w h ≤ i
    · rw [if_pos ((nI_leI (by omega) (by omega)).mpr hi)]
      exact ⟨v, rfl, fun e q => q, hv, fun _ k a b => by omega⟩
    · have hK : i < gK w h := by omega
      rw [if_neg (by rw [nI_leI (by omega) (by omega)]; exact hi), if_pos (ig (by omega) (by omega)), nI_clamp (by omega), nI_1 i]
      simp only [ob]
      by_cases hz : gL σ 3 i &&& gL σ b 2 &&& v = 0
      · rw [if_pos ((lg0 _).mpr hz)]
        obtain ⟨v', e1, s1, s2, s3⟩ := ih (i + 1) v (by omega) (by omega) hv
        refine ⟨v', e1, s1, s2, fun q k hk1 hk2 e f a1 a2 a3 => ?_⟩
        by_cases hki : k = i
        · subst hki
          have := (bt_eq0.mp hz) e
          rw [bt_and, (hr_iff g m hK e).mpr a1, a3] at this
          cases this
        · exact s3 q k (by omega) hk2 e f a1 a2 a3
      · rw [if_neg (by rw [lg0]; exact hz)]
        have hz2 : ∃ e, aK w h mk i e ∧ bt v e = true := by
          obtain ⟨e, _, q⟩ := bt_ne0.mp hz
          rw [bt_and, Bool.and_eq_true] at q
          exact ⟨e, (hr_iff g m hK e).mp q.1, q.2⟩
        obtain ⟨e0, a0, b0⟩ := hz2
        have hv1 : ∀ e, bt (v ||| (gL σ 3 i &&& gL σ b 2)) e = true → G e := by
          intro e q
          rw [bt_or, Bool.or_eq_true] at q
          rcases q with q | q
          · exact hv e q
          · exact hG i e0 e hK a0 ((hr_iff g m hK e).mp q) (hv e0 b0)
        obtain ⟨v', e1, s1, s2, s3⟩ := ih (i + 1) (v ||| (gL σ 3 i &&& gL σ b 2)) (by omega) (by omega) hv1
        have up : ∀ e, bt v e = true → bt (v ||| (gL σ 3 i &&& gL σ b 2)) e = true := fun e q => by rw [bt_or, q]; rfl
        refine ⟨v', e1, fun e q => s1 e (up e q), s2, fun q k hk1 hk2 e f a1 a2 a3 => ?_⟩
        have hsame : v ||| (gL σ 3 i &&& gL σ b 2) = v := by
          apply bt_ext
          intro e _
          cases z : bt v e with
          | true => exact up e z
          | false =>
            cases z2 : bt (v ||| (gL σ 3 i &&& gL σ b 2)) e with
            | false => rfl
            | true => have := s1 e z2; rw [q, z] at this; cases this
        by_cases hki : k = i
        · subst hki
          rw [← hsame, bt_or, (hr_iff g m hK f).mpr a2]
          simp
        · have := s3 (by rw [q, hsame]) k (by omega) hk2 e f a1 a2 (up e a3)
          rw [hsame] at this
          exact this
noncomputable def bN (v : Int64) : Nat := cnP 40 (fun e => bt v e = true)
theorem bN_up {v v' : Int64} (hs : ∀ e, bt v e = true → bt v' e = true) (hl : ∀ e, bt v' e = true → e < 40) (hn : ¬ v' = v) : bN v < bN v' := by
  have h1 := cnP_mono (n := 40) (P := fun e => bt v e = true) (Q := fun e => bt v' e = true) (fun e _ q => hs e q)
  rcases Nat.lt_or_ge (bN v) (bN v') with z | z
  · exact z
  · have h2 : bN v = bN v' := Nat.le_antisymm h1 z
    refine absurd (bt_ext (fun e _ => ?_)) hn
    have h3 := (cnP_eq (n := 40) (P := fun e => bt v e = true) (Q := fun e => bt v' e = true) (fun e _ q => hs e q)).mp h2
    cases z1 : bt v' e with
    | true => exact (h3 e (hl e z1) z1).symm
    | false =>
      cases z2 : bt v e with
      | false => rfl
      | true => rw [hs e z2] at z1; cases z1
theorem k_way10 {σ : vSt} {b w h : Nat} {cnt : Nat → Int32} {mk : Nat → Nat} (g : GD σ w h cnt) (m : MB σ b w h mk) {G : Nat → Prop} (hG : ∀ k e f, k < gK w h → aK w h mk k e → aK w h mk k f → G e → G f) (hGl : ∀ e, G e → e < 40) : ∀ (n i : Nat) (v : Int64), i < 40 → 40 < i + n → (i + 1 ≤ bN v ∨ v = 0) → (∀ e, bt v e = true → G e) → ∃ v', f_X0_wayOf_10 b σ n v (nI i) = some (.inl v') ∧ (∀ e, bt v e = true → bt v' e = true) ∧ (∀ e, bt v' e = true → G e) ∧ (∀ k, k < gK w h → ∀ e f, aK w h mk k e → aK w h mk k f → bt v' e = true → bt v' f = true) := by
  have hd := g.1.1
  have h25 := gK_25 hd
  intro n
  induction n with
  | zero => intro i v h1 h2; omega
  | succ n ih =>
    intro i v h1 h2 hN hv
    rw [f_X0_wayOf_10.eq_2, if_neg (by rw [nI_leI (by decide) (by omega)]; omega)]
    obtain ⟨v', e1, s1, s2, s3⟩ := k_pass g m hG 600 0 v (Nat.zero_le _) (by omega) hv
    rw [e1]
    simp only [ob]
    by_cases q : v' = v
    · rw [if_pos ((lgE _ _).mpr q)]
      refine ⟨v', rfl, s1, s2, fun k hk => ?_⟩
      rw [q]
      exact s3 q k (Nat.zero_le _) hk
    · rw [if_neg (by rw [lgE]; exact q), nI_1 i]
      have hv0 : ¬ v = 0 := by
        intro z
        obtain ⟨v2, e2, _, t2, _⟩ := k_pass g m (G := fun _ => False) (fun _ _ _ _ _ _ z => z) 600 0 v (Nat.zero_le _) (by omega) (fun e q => by rw [z, bt_0] at q; cases q)
        rw [e1] at e2
        have e3 := Option.some.inj e2
        refine q ?_
        rw [z]
        refine bt_eq0.mpr (fun e => ?_)
        cases z3 : bt v' e with
        | false => rfl
        | true => rw [e3] at z3; exact (t2 e z3).elim
      have hlt := bN_up s1 (fun e z => hGl e (s2 e z)) q
      have h40 : bN v' ≤ 40 := cnP_le 40 _
      have hN' := hN.resolve_right hv0
      obtain ⟨v2, e2, t1, t2, t3⟩ := ih (i + 1) v' (by omega) (by omega) (Or.inl (by omega)) s2
      exact ⟨v2, e2, fun e z => t1 e (s1 e z), t2, t3⟩
theorem k_wayOf {σ : vSt} {b w h : Nat} {cnt : Nat → Int32} {mk : Nat → Nat} (g : GD σ w h cnt) (m : MB σ b w h mk) (l : Int64) : ∃ v, f_X0_wayOf b l σ = some v ∧ ∀ e, bt v e = true ↔ (e < gE w h ∧ mk e = 1) ∧ ∃ f, bt l f = true ∧ (f < gE w h ∧ mk f = 1) ∧ Cn w h mk (gEn w h f 0) (gEn w h e 0) := by
  have hd := g.1.1
  have h40 := gE_40 hd
  have hl : ∀ e, bt (l &&& gL σ b 2) e = true ↔ bt l e = true ∧ e < gE w h ∧ mk e = 1 := fun e => by
    rw [bt_and, m.1, Bool.and_eq_true, decide_eq_true_iff]
  have hN : 0 + 1 ≤ bN (l &&& gL σ b 2) ∨ l &&& gL σ b 2 = 0 := by
    by_cases z : l &&& gL σ b 2 = 0
    · exact Or.inr z
    · left
      obtain ⟨e, _, q⟩ := bt_ne0.mp z
      exact cnP_pos.mpr ⟨e, by have := ((hl e).mp q).2.1; omega, q⟩
  obtain ⟨v, e1, s1, s2, s3⟩ := k_way10 g m (G := fun e => (e < gE w h ∧ mk e = 1) ∧ ∃ f, bt l f = true ∧ (f < gE w h ∧ mk f = 1) ∧ Cn w h mk (gEn w h f 0) (gEn w h e 0)) (fun k e f hk a1 a2 ⟨_, f0, x1, x2, x3⟩ => ⟨⟨a2.1, a2.2.1⟩, f0, x1, x2, (x3.tr (cn_at a1)).tr (cn_at a2).sy⟩) (fun e q => by have := q.1.1; omega) 600 0 (l &&& gL σ b 2) (by decide) (by decide) hN (fun e q => ⟨((hl e).mp q).2, e, ((hl e).mp q).1, ((hl e).mp q).2, CnI.rf⟩)
  refine ⟨v, ?_, fun e => ⟨s2 e, ?_⟩⟩
  · unfold f_X0_wayOf
    simp only [ob]
    rw [e1]
    rfl
  · rintro ⟨hde, f, x1, x2, x3⟩
    have hf : bt v f = true := s1 f ((hl f).mpr ⟨x1, x2⟩)
    have hS := (x3 (fun k => ∃ d, aK w h mk k d ∧ bt v d = true) (fun d hd1 hd2 => ?_)).mp ⟨f, ⟨x2.1, x2.2, Or.inl rfl⟩, hf⟩
    · obtain ⟨d, y1, y2⟩ := hS
      exact s3 _ (gEn_lt hd hde.1 (by decide)) d e y1 ⟨hde.1, hde.2, Or.inl rfl⟩ y2
    · constructor
      · rintro ⟨d2, y1, y2⟩
        exact ⟨d, ⟨hd1, hd2, Or.inr rfl⟩, s3 _ (gEn_lt hd hd1 (by decide)) d2 d y1 ⟨hd1, hd2, Or.inl rfl⟩ y2⟩
      · rintro ⟨d2, y1, y2⟩
        exact ⟨d, ⟨hd1, hd2, Or.inl rfl⟩, s3 _ (gEn_lt hd hd1 (by decide)) d2 d y1 ⟨hd1, hd2, Or.inr rfl⟩ y2⟩
theorem k_way1 {σ : vSt} {b w h : Nat} {cnt : Nat → Int32} {mk : Nat → Nat} (g : GD σ w h cnt) (m : MB σ b w h mk) {e0 : Nat} (h0 : e0 < gE w h) : ∃ v, f_X0_wayOf b (b1 e0) σ = some v ∧ ∀ e, bt v e = true ↔ e < gE w h ∧ (mk e0 = 1 ∧ wayP w h mk e0 e) := by
  have h40 := gE_40 g.1.1
  obtain ⟨v, e1, s1⟩ := k_wayOf g m (b1 e0)
  refine ⟨v, e1, fun e => ?_⟩
  rw [s1 e]
  constructor
  · rintro ⟨⟨a1, a2⟩, f, x1, x2, x3⟩
    rw [bt_b1 (by omega), decide_eq_true_iff] at x1
    subst x1
    exact ⟨a1, x2.2, a2, x3.sy⟩
  · rintro ⟨a1, a3, a2, x3⟩
    exact ⟨⟨a1, a2⟩, e0, by rw [bt_b1 (by omega)]; simp, ⟨h0, a3⟩, x3.sy⟩
theorem nTo_pos {w h : Nat} {mk : Nat → Nat} (hd : dim w h) {k : Nat} (hk : k < gK w h) : ¬ nTo w h mk k 1 = 0 ↔ ∃ e, aK w h mk k e := by
  unfold nTo
  constructor
  · intro z
    have h1 : 0 < (gToL w h k).countP (fun e => decide (mk e = 1)) := by omega
    obtain ⟨e, h2, h3⟩ := List.countP_pos_iff.mp h1
    exact ⟨e, gToL_lt hd hk h2, of_decide_eq_true h3, (gToL_iff hd hk (gToL_lt hd hk h2)).mp h2⟩
  · rintro ⟨e, x1, x2, x3⟩
    have h1 : 0 < (gToL w h k).countP (fun e => decide (mk e = 1)) := List.countP_pos_iff.mpr ⟨e, (gToL_iff hd hk x1).mpr x3, decide_eq_true x2⟩
    omega
theorem k_isRing1 {σ : vSt} {b w h : Nat} {cnt : Nat → Int32} {mk : Nat → Nat} (g : GD σ w h cnt) (kk : ∀ k, KK σ b w h mk k) {v : Int64} : ∀ (n i : Nat), i ≤ gK w h → gK w h < i + n → (f_X0_isRing_2 b v σ n (nI i) = some (.inr ()) ∧ ∀ k, i ≤ k → k < gK w h → (∃ e, e ∈ gToL w h k ∧ bt v e = true) → nTo w h mk k 1 = 2) ∨ (f_X0_isRing_2 b v σ n (nI i) = some (.inl (nI 0)) ∧ ∃ k, k < gK w h ∧ (∃ e, e ∈ gToL w h k ∧ bt v e = true) ∧ ¬ nTo w h mk k 1 = 2) := by
  have hd := g.1.1
  have h25 := gK_25 hd
  intro n
  induction n with
  | zero => intro i h1 h2; omega
  | succ n ih =>
    intro i h1 h2
    rw [f_X0_isRing_2.eq_2, g.1.2.2.2.2.1]
    by_cases hi : gK w h ≤ i
    · rw [if_pos ((nI_leI (by omega) (by omega)).mpr hi)]
      exact Or.inl ⟨rfl, fun k a b => by omega⟩
    · have hK : i < gK w h := by omega
      rw [if_neg (by rw [nI_leI (by omega) (by omega)]; exact hi), op_pI (P := nTo w h mk i 1 = 2) (o := if o_iushr (gI σ b 7) (nI i) &&& nI 1 = nI 0 then some (nI 0) else some (nI 1)) (fun q => by
        rw [if_neg]
        rw [k_iush (by omega)]
        rw [((kk i).2.1).mpr ⟨hK, q⟩]
        decide) (fun q => by
        rw [if_pos]
        rw [k_iush (by omega)]
        cases z : bi (gI σ b 7) i with
        | false => rfl
        | true => exact absurd ((kk i).2.1.mp z).2 q)]
      simp only [ob]
      rw [if_pos (ig (by omega) (by omega)), nI_clamp (by omega), nI_1 i]
      have hm : gL σ 3 i &&& v = 0 ↔ ¬ ∃ e, e ∈ gToL w h i ∧ bt v e = true := by
        rw [bt_eq0]
        constructor
        · rintro z ⟨e, x1, x2⟩
          have := z e
          rw [bt_and, g.2.1.2 i hK, x2, decide_eq_true x1] at this
          cases this
        · intro z e
          rw [bt_and, g.2.1.2 i hK]
          cases q : bt v e with
          | false => simp
          | true => rw [decide_eq_false (fun x => z ⟨e, x, q⟩)]; rfl
      by_cases hz : gL σ 3 i &&& v = 0
      · rw [if_pos ((lg0 _).mpr hz)]
        rcases ih (i + 1) (by omega) (by omega) with ⟨a, c⟩ | ⟨a, c⟩
        · refine Or.inl ⟨a, fun k k1 k2 x => ?_⟩
          by_cases hki : k = i
          · subst hki; exact absurd x (hm.mp hz)
          · exact c k (by omega) k2 x
        · exact Or.inr ⟨a, c⟩
      · rw [if_neg (by rw [lg0]; exact hz)]
        have hz2 : ∃ e, e ∈ gToL w h i ∧ bt v e = true := Classical.not_not.mp (fun x => hz (hm.mpr x))
        by_cases q : nTo w h mk i 1 = 2
        · rw [if_neg (by rw [pI_0]; exact fun z => z q)]
          rcases ih (i + 1) (by omega) (by omega) with ⟨a, c⟩ | ⟨a, c⟩
          · refine Or.inl ⟨a, fun k k1 k2 x => ?_⟩
            by_cases hki : k = i
            · subst hki; exact q
            · exact c k (by omega) k2 x
          · exact Or.inr ⟨a, c⟩
        · rw [if_pos (pI_0.mpr q)]
          exact Or.inr ⟨rfl, i, hK, hz2, q⟩
theorem k_isRing {σ : vSt} {b w h : Nat} {cnt : Nat → Int32} {mk : Nat → Nat} (g : GD σ w h cnt) (kk : ∀ k, KK σ b w h mk k) {v : Int64} {e0 : Nat} (h0 : e0 < gE w h) (hm : mk e0 = 1) (hv : ∀ e, bt v e = true ↔ e < gE w h ∧ wayP w h mk e0 e) : f_X0_isRing b v σ = some (pI (rgK w h mk (gEn w h e0 0))) := by
  have hd := g.1.1
  have h25 := gK_25 hd
  have hne : ¬ v = 0 := by
    intro z
    have := (hv e0).mpr ⟨h0, hm, CnI.rf⟩
    rw [z, bt_0] at this
    cases this
  unfold f_X0_isRing
  rcases k_isRing1 g kk (v := v) 600 0 (Nat.zero_le _) (by omega) with ⟨a, c⟩ | ⟨a, c⟩
  · rw [a]
    simp only [ob]
    rw [if_neg (by rw [lg0]; exact hne), pI_t]
    refine ⟨⟨e0, h0, hm, CnI.rf⟩, fun k' hk' hc hl => hl.2 ?_⟩
    obtain ⟨e, x⟩ := (nTo_pos hd hk').mp hl.1
    exact c k' (Nat.zero_le _) hk' ⟨e, (gToL_iff hd hk' x.1).mpr x.2.2, (hv e).mpr ⟨x.1, x.2.1, (cn_at x).tr hc⟩⟩
  · rw [a]
    simp only [ob]
    obtain ⟨k, hk, ⟨e, x1, x2⟩, x3⟩ := c
    rw [pI_f]
    intro hr
    have h1 := (hv e).mp x2
    have hat : aK w h mk k e := ⟨h1.1, h1.2.1, (gToL_iff hd hk h1.1).mp x1⟩
    exact hr.2 k hk ((cn_at hat).sy.tr h1.2.2) ⟨(nTo_pos hd hk).mpr ⟨e, hat⟩, x3⟩
