/-! THE LAW'S WAYS AND RINGS -/
def WV (σ : vSt) (w h : Nat) (mk : Nat → Nat) : Prop := ∀ e, e < gE w h → (mk e = 1 → gI σ 31 e = nI (lst (gE w h) (wayP w h mk e))) ∧ (¬ mk e = 1 → gI σ 31 e = -1)
theorem wy_rf {w h : Nat} {mk : Nat → Nat} {e : Nat} (h1 : mk e = 1) : wayP w h mk e e := ⟨h1, CnI.rf⟩
theorem wy_mem {w h : Nat} {mk : Nat → Nat} {e : Nat} (he : e < gE w h) (h1 : mk e = 1) : lst (gE w h) (wayP w h mk e) ≤ e ∧ wayP w h mk e (lst (gE w h) (wayP w h mk e)) := by
  rcases lst_or (gE w h) (wayP w h mk e) with ⟨j, a, b, c, d⟩ | ⟨a, _⟩
  · rw [d]
    refine ⟨?_, b⟩
    by_cases q : j ≤ e
    · exact q
    · exact absurd (wy_rf h1) (c e (by omega))
  · exact absurd (wy_rf h1) (a e he)
theorem wy_lst {w h : Nat} {mk : Nat → Nat} {e f : Nat} (wp : wayP w h mk e f) : lst (gE w h) (wayP w h mk e) = lst (gE w h) (wayP w h mk f) :=
  lst_c (fun j _ => ⟨fun q => ⟨q.1, CnI.tr q.2 (CnI.sy wp.2)⟩, fun q => ⟨q.1, CnI.tr q.2 wp.2⟩⟩)
theorem wy_iff {w h : Nat} {mk : Nat → Nat} {e f : Nat} (he : e < gE w h) (hf : f < gE w h) (h1 : mk e = 1) (h2 : mk f = 1) : lst (gE w h) (wayP w h mk f) = lst (gE w h) (wayP w h mk e) ↔ wayP w h mk e f := by
  constructor
  · intro q
    have a := (wy_mem he h1).2
    have b := (wy_mem hf h2).2
    rw [q] at b
    exact ⟨h2, CnI.tr (CnI.sy b.2) a.2⟩
  · intro q
    exact (wy_lst q).symm
theorem WV.at {σ : vSt} {w h : Nat} {mk : Nat → Nat} (v : WV σ w h mk) (hd : dim w h) {e f : Nat} (he : e < gE w h) (hf : f < gE w h) (h1 : mk e = 1) : gI σ 31 f = nI (lst (gE w h) (wayP w h mk e)) ↔ wayP w h mk e f := by
  have h40 := gE_40 hd
  have m1 := (wy_mem he h1).1
  by_cases h2 : mk f = 1
  · have m2 := (wy_mem hf h2).1
    rw [(v f hf).1 h2, nI_eq (by omega) (by omega)]
    exact wy_iff he hf h1 h2
  · rw [(v f hf).2 h2]
    exact ⟨fun q => absurd q.symm (nI_nem1 (by omega)), fun q => absurd q.1 h2⟩
theorem q_size5 {σ : vSt} {w h : Nat} {cnt : Nat → Int32} {mk : Nat → Nat} (p : PG σ w h cnt mk) (v : WV σ w h mk) {e : Nat} (he : e < gE w h) (h1 : mk e = 1) : ∀ (n i : Nat), i ≤ gE w h → gE w h < i + n → f_L_size_5 (nI (lst (gE w h) (wayP w h mk e))) σ n (nI (cnP i (wayP w h mk e))) (nI i) = some (nI (cnP (gE w h) (wayP w h mk e))) := by
  have hd := p.1.2.2
  have h40 := gE_40 hd
  intro n
  induction n with
  | zero => intro i a b; omega
  | succ n ih =>
    intro i a b
    rw [f_L_size_5.eq_2, q_edges p.1]
    simp only [ob]
    by_cases z : gE w h ≤ i
    · rw [if_pos ((nI_leI (by omega) (by omega)).mpr z), show i = gE w h by omega]
    · rw [if_neg (by rw [nI_leI (by omega) (by omega)]; exact z), if_pos (ig (by omega) (by omega)), nI_clamp (by omega)]
      have e1 : ((if gI σ 31 i = nI (lst (gE w h) (wayP w h mk e)) then some (nI 1) else some (nI 0)) : Option Int32) = some (nI (iv (wayP w h mk e i))) := by
        by_cases y : wayP w h mk e i
        · rw [if_pos ((v.at hd he (by omega) h1).mpr y), iv_t y]
        · rw [if_neg (fun q => y ((v.at hd he (by omega) h1).mp q)), iv_f y]
      rw [e1]
      simp only [ob]
      rw [nI_add, ← cnP_s, nI_1 i]
      exact ih (i + 1) (by omega) (by omega)
theorem q_size {σ : vSt} {w h : Nat} {cnt : Nat → Int32} {mk : Nat → Nat} (p : PG σ w h cnt mk) (v : WV σ w h mk) {e : Nat} (he : e < gE w h) (h1 : mk e = 1) : f_L_size (nI (lst (gE w h) (wayP w h mk e))) σ = some (nI (cnP (gE w h) (wayP w h mk e))) := by
  have h40 := gE_40 p.1.2.2
  have e1 := q_size5 p v he h1 600 0 (Nat.zero_le _) (by omega)
  rw [cnP_0] at e1
  unfold f_L_size
  rw [e1]
  simp only [ob]
def RNG (w h : Nat) (mk : Nat → Nat) (e j : Nat) : Prop := wayP w h mk e j → nTo w h mk (gEn w h j 0) 1 = 2 ∧ nTo w h mk (gEn w h j 1) 1 = 2
theorem q_isRing2 {σ : vSt} {w h : Nat} {cnt : Nat → Int32} {mk : Nat → Nat} (p : PG σ w h cnt mk) (v : WV σ w h mk) {e : Nat} (he : e < gE w h) (h1 : mk e = 1) : ∀ (n i : Nat), i ≤ gE w h → gE w h < i + n → (∀ j, j < i → RNG w h mk e j) → ((∀ j, j < gE w h → RNG w h mk e j) ∧ f_L_isRing_2 (nI (lst (gE w h) (wayP w h mk e))) σ n (nI i) = some (.inr ())) ∨ ((¬ ∀ j, j < gE w h → RNG w h mk e j) ∧ f_L_isRing_2 (nI (lst (gE w h) (wayP w h mk e))) σ n (nI i) = some (.inl (nI 0))) := by
  have hd := p.1.2.2
  have h40 := gE_40 hd
  intro n
  induction n with
  | zero => intro i a b; omega
  | succ n ih =>
    intro i a b hm
    rw [f_L_isRing_2.eq_2, q_edges p.1]
    simp only [ob]
    by_cases z : gE w h ≤ i
    · rw [if_pos ((nI_leI (by omega) (by omega)).mpr z)]
      exact Or.inl ⟨fun j hj => hm j (by omega), rfl⟩
    · have hi : i < gE w h := by omega
      rw [if_neg (by rw [nI_leI (by omega) (by omega)]; exact z), if_pos (ig (by omega) (by omega)), nI_clamp (by omega), nI_1 i]
      have hgo : RNG w h mk e i → ((∀ j, j < gE w h → RNG w h mk e j) ∧ f_L_isRing_2 (nI (lst (gE w h) (wayP w h mk e))) σ n (nI (i + 1)) = some (.inr ())) ∨ ((¬ ∀ j, j < gE w h → RNG w h mk e j) ∧ f_L_isRing_2 (nI (lst (gE w h) (wayP w h mk e))) σ n (nI (i + 1)) = some (.inl (nI 0))) := by
        intro q
        refine ih (i + 1) (by omega) (by omega) (fun j hj => ?_)
        by_cases y : j = i
        · rw [y]; exact q
        · exact hm j (by omega)
      by_cases y : wayP w h mk e i
      · obtain ⟨d0, d1⟩ := q_end0 hd hi
        have l0 := nTo_le w h mk (gEn w h i 0) 1
        have l1 := nTo_le w h mk (gEn w h i 1) 1
        rw [if_pos ((v.at hd he hi h1).mpr y), q_ends p.1 hi]
        simp only [ob]
        rw [d1, d0, q_at p (gEn_lt hd hi (by decide)) (by decide), q_at p (gEn_lt hd hi (by decide)) (by decide)]
        simp only [ob]
        by_cases x0 : nTo w h mk (gEn w h i 0) 1 = 2
        · rw [if_pos (by rw [x0])]
          by_cases x1 : nTo w h mk (gEn w h i 1) 1 = 2
          · rw [if_pos (by rw [x1])]
            exact hgo (fun _ => ⟨x0, x1⟩)
          · rw [if_neg (by rw [nI_eq (by omega) (by decide)]; exact x1)]
            exact Or.inr ⟨fun q => x1 (q i hi y).2, rfl⟩
        · rw [if_neg (by rw [nI_eq (by omega) (by decide)]; exact x0)]
          exact Or.inr ⟨fun q => x0 (q i hi y).1, rfl⟩
      · rw [if_neg (fun q => y ((v.at hd he hi h1).mp q))]
        exact hgo (fun q => absurd q y)
theorem nTo_has {w h : Nat} {mk : Nat → Nat} (hd : dim w h) {k : Nat} (hk : k < gK w h) : nTo w h mk k 1 ≠ 0 ↔ ∃ j, j < gE w h ∧ mk j = 1 ∧ (gEn w h j 0 = k ∨ gEn w h j 1 = k) := by
  unfold nTo
  rw [← Nat.pos_iff_ne_zero, List.countP_pos_iff]
  constructor
  · rintro ⟨j, hj, mj⟩
    have hjE := gToL_lt hd hk hj
    exact ⟨j, hjE, of_decide_eq_true mj, (gToL_iff hd hk hjE).mp hj⟩
  · rintro ⟨j, hj, mj, ej⟩
    exact ⟨j, (gToL_iff hd hk hj).mpr ej, decide_eq_true mj⟩
theorem RNG_iff {w h : Nat} {mk : Nat → Nat} (hd : dim w h) {e : Nat} (he : e < gE w h) (h1 : mk e = 1) : (∀ j, j < gE w h → RNG w h mk e j) ↔ rgK w h mk (gEn w h e 0) := by
  constructor
  · intro q
    refine ⟨⟨e, he, h1, CnI.rf⟩, fun k' hk' ck ls => ?_⟩
    obtain ⟨j, hj, mj, ej⟩ := (nTo_has hd hk').mp ls.1
    have cj : Cn w h mk (gEn w h j 0) (gEn w h j 1) := CnI.ed hj mj
    rcases ej with ej | ej
    · have := (q j hj ⟨mj, by rw [ej]; exact ck⟩).1
      rw [ej] at this
      exact ls.2 this
    · have := (q j hj ⟨mj, CnI.tr cj (by rw [ej]; exact ck)⟩).2
      rw [ej] at this
      exact ls.2 this
  · intro q j hj wp
    have cj : Cn w h mk (gEn w h j 0) (gEn w h j 1) := CnI.ed hj wp.1
    have k0 := gEn_lt hd hj (s := 0) (by decide)
    have k1 := gEn_lt hd hj (s := 1) (by decide)
    have n0 := (nTo_has (mk := mk) hd k0).mpr ⟨j, hj, wp.1, Or.inl rfl⟩
    have n1 := (nTo_has (mk := mk) hd k1).mpr ⟨j, hj, wp.1, Or.inr rfl⟩
    have r0 := q.2 _ k0 wp.2
    have r1 := q.2 _ k1 (CnI.tr (CnI.sy cj) wp.2)
    unfold lse at r0 r1
    exact ⟨by omega, by omega⟩
theorem q_isRing {σ : vSt} {w h : Nat} {cnt : Nat → Int32} {mk : Nat → Nat} (p : PG σ w h cnt mk) (v : WV σ w h mk) {e : Nat} (he : e < gE w h) (h1 : mk e = 1) : f_L_isRing (nI (lst (gE w h) (wayP w h mk e))) σ = some (pI (rgK w h mk (gEn w h e 0))) := by
  have hd := p.1.2.2
  have h40 := gE_40 hd
  unfold f_L_isRing
  rcases q_isRing2 p v he h1 600 0 (Nat.zero_le _) (by omega) (fun c hc => absurd hc (Nat.not_lt_zero c)) with ⟨a, e1⟩ | ⟨a, e1⟩
  · rw [e1, pI_t ((RNG_iff hd he h1).mp a)]; rfl
  · rw [e1, pI_f (fun q => a ((RNG_iff hd he h1).mpr q))]; rfl
def Qh (w h : Nat) (mk : Nat → Nat) (e : Nat) : Prop := mk e = 1 ∧ lst (gE w h) (wayP w h mk e) = e ∧ rgK w h mk (gEn w h e 0)
def Bh (w h : Nat) (cnt : Nat → Int32) (mk : Nat → Nat) (e : Nat) : Prop := Qh w h mk e ∧ ¬ (met w h cnt mk ∧ fullK w h mk (gEn w h e 0))
def BRp (w h : Nat) (cnt : Nat → Int32) (mk : Nat → Nat) (i : Nat) (v : Int32) : Prop := (∃ e, i ≤ e ∧ e < gE w h ∧ Bh w h cnt mk e ∧ (∀ l, i ≤ l → l < e → ¬ Bh w h cnt mk l) ∧ v = nI e) ∨ ((∀ e, i ≤ e → e < gE w h → ¬ Bh w h cnt mk e) ∧ (∃ e, i ≤ e ∧ e < gE w h ∧ Qh w h mk e) ∧ v = -1) ∨ ((∀ e, i ≤ e → e < gE w h → ¬ Qh w h mk e) ∧ v = -2)
theorem fulq_iff {w h : Nat} {mk : Nat → Nat} {e : Nat} : cnP (gE w h) (wayP w h mk e) = cnP (gE w h) (fun e => mk e = 1) ↔ fullK w h mk (gEn w h e 0) := by
  rw [cnP_eq (fun j _ q => q.1)]
  exact ⟨fun q j hj mj => (q j hj mj).2, fun q j hj mj => ⟨mj, q j hj mj⟩⟩
theorem BR_skip {w h : Nat} {cnt : Nat → Int32} {mk : Nat → Nat} {i : Nat} {v : Int32} (b : BRp w h cnt mk (i + 1) v) (hn : ¬ Qh w h mk i) : BRp w h cnt mk i v := by
  rcases b with ⟨e, a1, a2, a3, a4, a5⟩ | ⟨a1, ⟨e, a2, a3, a4⟩, a5⟩ | ⟨a1, a2⟩
  · refine Or.inl ⟨e, by omega, a2, a3, fun l h1 h2 q => ?_, a5⟩
    by_cases y : l = i
    · rw [y] at q; exact hn q.1
    · exact a4 l (by omega) h2 q
  · refine Or.inr (Or.inl ⟨fun l h1 h2 q => ?_, ⟨e, by omega, a3, a4⟩, a5⟩)
    by_cases y : l = i
    · rw [y] at q; exact hn q.1
    · exact a1 l (by omega) h2 q
  · refine Or.inr (Or.inr ⟨fun l h1 h2 q => ?_, a2⟩)
    by_cases y : l = i
    · rw [y] at q; exact hn q
    · exact a1 l (by omega) h2 q
theorem BR_bad {w h : Nat} {cnt : Nat → Int32} {mk : Nat → Nat} {i : Nat} (hi : i < gE w h) (hb : Bh w h cnt mk i) : BRp w h cnt mk i (nI i) := Or.inl ⟨i, Nat.le_refl _, hi, hb, fun l h1 h2 => by omega, rfl⟩
theorem BR_good {w h : Nat} {cnt : Nat → Int32} {mk : Nat → Nat} {i : Nat} {v : Int32} (hE : gE w h < 2 ^ 31) (hi : i < gE w h) (b : BRp w h cnt mk (i + 1) v) (hq : Qh w h mk i) (hb : ¬ Bh w h cnt mk i) : BRp w h cnt mk i (if v = -2 then -1 else v) := by
  rcases b with ⟨e, a1, a2, a3, a4, a5⟩ | ⟨a1, ⟨e, a2, a3, a4⟩, a5⟩ | ⟨a1, a2⟩
  · have hne : ¬ v = -2 := by
      rw [a5]
      intro q
      have h9 : nI 0 ≤ nI e := nI_nn e (by omega)
      rw [q] at h9
      exact absurd h9 (by decide)
    rw [if_neg hne]
    refine Or.inl ⟨e, by omega, a2, a3, fun l h1 h2 q => ?_, a5⟩
    by_cases y : l = i
    · rw [y] at q; exact hb q
    · exact a4 l (by omega) h2 q
  · rw [a5, if_neg (by decide)]
    refine Or.inr (Or.inl ⟨fun l h1 h2 q => ?_, ⟨e, by omega, a3, a4⟩, rfl⟩)
    by_cases y : l = i
    · rw [y] at q; exact hb q
    · exact a1 l (by omega) h2 q
  · rw [if_pos a2]
    refine Or.inr (Or.inl ⟨fun l h1 h2 q => ?_, ⟨i, Nat.le_refl _, hi, hq⟩, rfl⟩)
    by_cases y : l = i
    · rw [y] at q; exact hb q
    · exact a1 l (by omega) h2 q.1
theorem q_firstRing10 {σ : vSt} {w h : Nat} {cnt : Nat → Int32} {mk : Nat → Nat} (p : PG σ w h cnt mk) (v : WV σ w h mk) : ∀ (n i : Nat) (b : Int32), i ≤ gE w h → i < n → BRp w h cnt mk i b → ∃ b', f_L_firstRing_10 σ n b (dI i) = some b' ∧ BRp w h cnt mk 0 b' := by
  have hd := p.1.2.2
  have h40 := gE_40 hd
  intro n
  induction n with
  | zero => intro i b h1 h2; omega
  | succ n ih =>
    intro i b h1 h2 hb
    rw [f_L_firstRing_10.eq_2]
    cases i with
    | zero =>
      rw [if_pos (show dI 0 < nI 0 by decide)]
      exact ⟨b, rfl, hb⟩
    | succ i =>
      have hi : i < gE w h := by omega
      rw [dI_s, if_neg (by rw [nI_ltI (by omega) (by decide)]; omega), if_pos (ig (by omega) (by omega)), nI_clamp (by omega), dI_d]
      by_cases c1 : mk i = 1
      · rw [(v i hi).1 c1]
        have hm := (wy_mem hi c1).1
        by_cases c2 : lst (gE w h) (wayP w h mk i) = i
        · rw [if_pos (by rw [c2])]
          have er := q_isRing p v hi c1
          have es := q_size p v hi c1
          rw [c2] at er es
          rw [er]
          simp only [ob]
          by_cases c3 : rgK w h mk (gEn w h i 0)
          · have hq : Qh w h mk i := ⟨c1, c2, c3⟩
            rw [pI_t c3, if_neg (show ¬ nI 1 = nI 0 by decide), q_isMet p]
            simp only [ob]
            rw [es, q_drawn p]
            simp only [ob]
            have l1 := cnP_le (gE w h) (wayP w h mk i)
            have l2 := cnP_le (gE w h) (fun e => mk e = 1)
            have e9 : ((if pI (met w h cnt mk) = nI 0 then some (nI 0) else (if nI (cnP (gE w h) (wayP w h mk i)) = nI (cnP (gE w h) (fun e => mk e = 1)) then some (nI 1) else some (nI 0))) : Option Int32) = some (pI (met w h cnt mk ∧ fullK w h mk (gEn w h i 0))) := by
              by_cases y : met w h cnt mk
              · rw [pI_t y, if_neg (show ¬ nI 1 = nI 0 by decide)]
                by_cases x : fullK w h mk (gEn w h i 0)
                · rw [if_pos (by rw [fulq_iff.mpr x]), pI_t ⟨y, x⟩]
                · rw [if_neg (by rw [nI_eq (by omega) (by omega), fulq_iff]; exact x), pI_f (fun q => x q.2)]
              · rw [pI_f y, if_pos rfl, pI_f (fun q => y q.1)]
            rw [e9]
            simp only [ob]
            by_cases y : met w h cnt mk ∧ fullK w h mk (gEn w h i 0)
            · rw [pI_t y, if_neg (show ¬ nI 1 = nI 0 by decide)]
              have g := BR_good (by omega) hi hb hq (fun q => q.2 y)
              by_cases x : b = -2
              · rw [if_pos x]
                rw [if_pos x] at g
                exact ih i _ (by omega) (by omega) g
              · rw [if_neg x]
                rw [if_neg x] at g
                exact ih i _ (by omega) (by omega) g
            · rw [pI_f y, if_pos (show nI 0 = nI 0 from rfl)]
              exact ih i _ (by omega) (by omega) (BR_bad hi ⟨hq, y⟩)
          · rw [pI_f c3, if_pos (show nI 0 = nI 0 from rfl)]
            exact ih i _ (by omega) (by omega) (BR_skip hb (fun q => c3 q.2.2))
        · rw [if_neg (by rw [nI_eq (by omega) (by omega)]; exact c2)]
          exact ih i _ (by omega) (by omega) (BR_skip hb (fun q => c2 q.2.1))
      · rw [(v i hi).2 c1, if_neg (fun q => nI_nem1 (n := i) (by omega) q.symm)]
        exact ih i _ (by omega) (by omega) (BR_skip hb (fun q => c1 q.1))
theorem hd_of {w h : Nat} {mk : Nat → Nat} {l : Nat} (hl : l < gE w h) (r : rgE w h mk l) : ∃ m, m ≤ l ∧ wayP w h mk l m ∧ Qh w h mk m := by
  obtain ⟨a, b⟩ := wy_mem hl r.1
  have r2 := rgE_way b r
  exact ⟨_, a, b, r2.1, (wy_lst b).symm, r2.2⟩
theorem q_firstRing {σ : vSt} {w h : Nat} {cnt : Nat → Int32} {mk : Nat → Nat} (p : PG σ w h cnt mk) (v : WV σ w h mk) : ∃ b, f_L_firstRing σ = some b ∧ ((lst (gE w h) (badR w h cnt mk) ≠ 99 ∧ b = nI (lst (gE w h) (badR w h cnt mk))) ∨ (lst (gE w h) (badR w h cnt mk) = 99 ∧ hasR w h mk ∧ b = -1) ∨ (lst (gE w h) (badR w h cnt mk) = 99 ∧ ¬ hasR w h mk ∧ b = -2)) := by
  have hd := p.1.2.2
  have h40 := gE_40 hd
  unfold f_L_firstRing
  rw [q_edges p.1]
  simp only [ob]
  rw [dI_0]
  obtain ⟨b, e, r⟩ := q_firstRing10 p v 600 (gE w h) (-2) (Nat.le_refl _) (by omega) (Or.inr (Or.inr ⟨fun e h1 h2 => by omega, rfl⟩))
  rw [e]
  refine ⟨b, rfl, ?_⟩
  have bB : ∀ e, Bh w h cnt mk e → badR w h cnt mk e := fun e q => ⟨⟨q.1.1, q.1.2.2⟩, by
    by_cases y : met w h cnt mk
    · exact Or.inr (fun x => q.2 ⟨y, x⟩)
    · exact Or.inl y⟩
  have Bb : ∀ l, l < gE w h → badR w h cnt mk l → ∃ m, m ≤ l ∧ Bh w h cnt mk m := by
    intro l hl q
    obtain ⟨m, a1, a2, a3⟩ := hd_of hl q.1
    have q2 := badR_way a2 q
    refine ⟨m, a1, a3, fun x => ?_⟩
    rcases q2.2 with y | y
    · exact y x.1
    · exact y x.2
  rcases r with ⟨e, a1, a2, a3, a4, a5⟩ | ⟨a1, ⟨e, a2, a3, a4⟩, a5⟩ | ⟨a1, a2⟩
  · have : lst (gE w h) (badR w h cnt mk) = e := lst_is a2 (bB e a3) (fun l hl q => by
      obtain ⟨m, b1, b2⟩ := Bb l (by omega) q
      exact a4 m (Nat.zero_le _) (by omega) b2)
    rw [this]
    exact Or.inl ⟨by omega, a5⟩
  · have : lst (gE w h) (badR w h cnt mk) = 99 := lst_no (fun l hl q => by
      obtain ⟨m, b1, b2⟩ := Bb l hl q
      exact a1 m (Nat.zero_le _) (by omega) b2)
    exact Or.inr (Or.inl ⟨this, ⟨e, a3, a4.1, a4.2.2⟩, a5⟩)
  · have h0 : ¬ hasR w h mk := by
      rintro ⟨l, hl, q⟩
      obtain ⟨m, b1, b2, b3⟩ := hd_of hl q
      exact a1 m (Nat.zero_le _) (by omega) b3
    have : lst (gE w h) (badR w h cnt mk) = 99 := lst_no (fun l hl q => h0 ⟨l, hl, q.1⟩)
    exact Or.inr (Or.inr ⟨this, h0, a2⟩)
