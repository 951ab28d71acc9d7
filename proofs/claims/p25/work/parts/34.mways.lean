/-! THE REFERENCE'S WAY AND EDGE AT -/
def wayP (w h : Nat) (mk : Nat → Nat) (e f : Nat) : Prop := mk f = 1 ∧ Cn w h mk (gEn w h f 0) (gEn w h e 0)
noncomputable def wayV (x : Sn) (e k : Nat) : Int32 := if x.mk e = 1 then (if k = 1 then nI (lst (gE x.w x.h) (wayP x.w x.h x.mk e)) else if k = 0 then nI (cnP (gE x.w x.h) (wayP x.w x.h x.mk e)) else pI (rgK x.w x.h x.mk (gEn x.w x.h e 0))) else -1
theorem m_way1 {τ : vSt} {w h : Nat} {cnt : Nat → Int32} {mk U : Nat → Nat} (hg : MG τ w h cnt mk) (hj : JN τ w h mk U) {e : Nat} (he : e < gE w h) (h1 : mk e = 1) : ∀ (n i : Nat), i ≤ e → e < i + n → f_X7_way_87 (nI (top U (gEn w h e 0))) τ n (nI i) = some (nI (lsF (wayP w h mk e) i (gE w h - i))) := by
  have hd := hg.1.2.2
  have h40 := gE_40 hd
  have h25 := gK_25 hd
  intro n
  induction n with
  | zero => intro i a b; omega
  | succ n ih =>
    intro i a b
    have hi : i < gE w h := by omega
    rw [f_X7_way_87.eq_2, m_markOf hg (by omega)]
    simp only [ob]
    by_cases c : mk i = 1
    · have k0 := gEn_lt hd hi (s := 0) (by decide)
      have k1 := gEn_lt hd he (s := 0) (by decide)
      rw [if_pos (by rw [c]), m_end hg.1 hi (s := 0) (by decide)]
      simp only [ob]
      rw [m_top h25 hj.1 hj.2.1.1 k0]
      simp only [ob]
      have t0 := top_ltK hj.2.1.1 k0
      have t1 := top_ltK hj.2.1.1 k1
      have hq : nI (top U (gEn w h i 0)) = nI (top U (gEn w h e 0)) ↔ Cn w h mk (gEn w h i 0) (gEn w h e 0) := by
        rw [nI_eq (by omega) (by omega)]
        exact hj.2.1.2 _ _ k0 k1
      by_cases d : Cn w h mk (gEn w h i 0) (gEn w h e 0)
      · rw [if_pos (hq.mpr d), lsF_y (P := wayP w h mk e) hi ⟨c, d⟩]
      · rw [if_neg (fun z => d (hq.mp z)), nI_1 i, lsF_n hi (fun z => d z.2)]
        have hne : i ≠ e := fun z => d (by rw [z]; exact CnI.rf)
        exact ih (i + 1) (by omega) (by omega)
    · have hne : i ≠ e := fun z => c (by rw [z]; exact h1)
      rw [if_neg (by rw [nI_eq (by have := hg.2.2.2 i; omega) (by decide)]; exact c), nI_1 i, lsF_n hi (fun z => c z.1)]
      exact ih (i + 1) (by omega) (by omega)
theorem m_way {τ : vSt} {x : Sn} {L : List Sn} {T : List Int32} (q : RF τ x L T) (a b : Int32) : (∃ e k τ', e < gE x.w x.h ∧ k < 3 ∧ a = nI e ∧ b = nI k ∧ f_X7_way a b τ = some (wayV x e k, τ') ∧ RF τ' x L T) ∨ (((∀ e, e < gE x.w x.h → a ≠ nI e) ∨ (∀ k, k < 3 → b ≠ nI k)) ∧ f_X7_way a b τ = some (-2, τ)) := by
  have hd := q.2.1.1
  have h40 := gE_40 hd
  have h25 := gK_25 hd
  have hp := gE_pos hd
  unfold f_X7_way
  rw [m_edges q.mg.1]
  simp only [ob]
  rcases m_inN (a := a) hp.1 (by omega) with ⟨e, he, rfl, hi⟩ | ⟨hn, hi⟩
  · rw [hi]
    simp only [ob]
    rw [if_neg (by decide)]
    rcases m_in (a := b) (lo := 0) (M := 2) (by decide) (by decide) with ⟨k, _, hk, rfl, hi2⟩ | ⟨hn2, hi2⟩
    · rw [hi2]
      simp only [ob]
      rw [if_neg (by decide), m_markOf q.mg (by omega)]
      simp only [ob]
      by_cases c : x.mk e = 1
      · rw [if_pos (by rw [c])]
        obtain ⟨τ1, U, e1, s1, j1⟩ := m_joins q.mg
        have q1 : RF τ1 x L T := q.fl (s1.mono (fun _ _ z => Or.inl z))
        have k0 := gEn_lt hd he (s := 0) (by decide)
        rw [e1]
        simp only [ob]
        rw [m_end q1.mg.1 he (s := 0) (by decide)]
        simp only [ob]
        rw [m_top h25 j1.1 j1.2.1.1 k0]
        simp only [ob]
        have t0 := top_ltK j1.2.1.1 k0
        refine Or.inl ⟨e, k, τ1, he, by omega, rfl, rfl, ?_, q1⟩
        rcases (show k = 0 ∨ k = 1 ∨ k = 2 by omega) with rfl | rfl | rfl
        · have hV : wayV x e 0 = nI (cnP (gE x.w x.h) (wayP x.w x.h x.mk e)) := if_pos c
          rw [hV, if_neg (by decide), if_pos rfl, if_pos (ig (by omega) (by omega)), nI_clamp (by omega), (j1.2.2.2 _ t0).1]
          have hc : cnP (gE x.w x.h) (fun f => x.mk f = 1 ∧ top U (gEn x.w x.h f 0) = top U (gEn x.w x.h e 0)) = cnP (gE x.w x.h) (wayP x.w x.h x.mk e) := cnP_c (fun f hf => by
            unfold wayP
            rw [j1.2.1.2 _ _ (gEn_lt hd hf (by decide)) k0]
            exact Iff.rfl)
          rw [hc]
        · have hV : wayV x e 1 = nI (lst (gE x.w x.h) (wayP x.w x.h x.mk e)) := if_pos c
          rw [hV, if_pos rfl, m_way1 q1.mg j1 he c 600 0 (Nat.zero_le _) (by omega)]
          rfl
        · have hV : wayV x e 2 = pI (rgK x.w x.h x.mk (gEn x.w x.h e 0)) := if_pos c
          rw [hV, if_neg (by decide), if_neg (by decide), m_isRing hd j1 k0]
          simp only [ob]
          by_cases r : rgK x.w x.h x.mk (gEn x.w x.h e 0)
          · rw [pI_t r, if_neg (by decide)]
          · rw [pI_f r, if_pos rfl]
      · rw [if_neg (by rw [nI_eq (by have := q.2.1.2.1 e; omega) (by decide)]; exact c)]
        have hV : wayV x e k = -1 := if_neg c
        exact Or.inl ⟨e, k, τ, he, by omega, rfl, rfl, by rw [hV], q⟩
    · rw [hi2]
      exact Or.inr ⟨Or.inr (fun v hv => hn2 v (Nat.zero_le _) (by omega)), rfl⟩
  · rw [hi]
    exact Or.inr ⟨Or.inl hn, rfl⟩
def gTs (w h p : Nat) : Nat → Nat → List Nat
  | _, 0 => []
  | i, m + 1 => if gTo w h p i < 99 then gTo w h p i :: gTs w h p (i + 1) m else gTs w h p (i + 1) m
theorem gTs_4 (w h p : Nat) : gTs w h p 0 4 = gToL w h p := by
  unfold gToL
  simp only [gTs, List.filter_cons, List.filter_nil, decide_eq_true_eq]
def opI : Option Nat → (Int32 ⊕ Unit)
  | some y => .inl (nI y)
  | none => .inr ()
theorem m_ea1 {τ : vSt} {w h : Nat} (hd : MD τ w h) {p k : Nat} (hp : p < gK w h) (hk : k < 2 ^ 31) : ∀ (m i c n : Nat), i + m = 4 → c ≤ k → c ≤ i → f_X7_edgeAt_58 (nI p) (nI k) τ (n + m + 1) (nI c) (nI i) = some (opI ((gTs w h p i m)[k - c]?)) := by
  have h40 := gE_40 hd.2.2
  intro m
  induction m with
  | zero =>
    intro i c n h1 h2 h3
    rw [f_X7_edgeAt_58.eq_2, show i = 4 by omega, if_pos (by decide)]
    rfl
  | succ m ih =>
    intro i c n h1 h2 h3
    rw [show n + (m + 1) + 1 = (n + m + 1) + 1 by omega, f_X7_edgeAt_58.eq_2, if_neg (by rw [nI_leI (by decide) (by omega)]; omega), m_toward hd hp (by omega)]
    simp only [ob]
    unfold gTs
    rcases gTo_or hd.2.2 hp (i := i) (by omega) with g | g
    · rw [tI_n (by omega), if_neg (nI_nem1 (by omega)), if_pos (show gTo w h p i < 99 by omega)]
      by_cases a : c = k
      · rw [if_pos (by rw [a]), a, Nat.sub_self]
        rfl
      · rw [if_neg (by rw [nI_eq (by omega) hk]; exact a), nI_1 c, nI_1 i, ih (i + 1) (c + 1) n (by omega) (by omega) (by omega), show k - c = (k - (c + 1)) + 1 by omega]
        rfl
    · rw [g, tI_99, if_pos rfl, if_neg (by decide), nI_1 i]
      exact ih (i + 1) c n (by omega) h2 (by omega)
