/-! THE REFERENCE'S DIGEST -/
def mx (a : Int64) (v : Int32) : Int64 := (31 : Int64) * a + v.toInt64
def fmx (f : Nat → Int32) : Nat → Nat → Int64 → Int64
  | _, 0, a => a
  | i, m + 1, a => fmx f (i + 1) m (mx a (f i))
theorem sL_I (σ : vSt) (q j : Nat) (v : Int64) (q' j' : Nat) : gI (sL σ q j v) q' j' = gI σ q' j' := rfl
theorem RF.sl {τ : vSt} {x : Sn} {L : List Sn} {T : List Int32} (r : RF τ x L T) (v : Int64) : RF (sL τ 0 29 v) x L T := r
theorem sL_same (σ : vSt) (v : Int64) : gL (sL σ 0 29 v) 0 29 = v := by
  unfold gL sL
  simp [vp_updL]
theorem m_mixes (v : Int32) (τ : vSt) : f_X7_mixes v τ = some (sL τ 0 29 (mx (gL τ 0 29) v)) := rfl
def DG (τ : vSt) (x : Sn) (L : List Sn) (T : List Int32) (a : Int64) : Prop := RF τ x L T ∧ gL τ 0 29 = a
theorem DG.mx {τ : vSt} {x : Sn} {L : List Sn} {T : List Int32} {a : Int64} (d : DG τ x L T a) (v : Int32) : DG (sL τ 0 29 (mx (gL τ 0 29) v)) x L T (mx a v) := ⟨d.1.sl _, by rw [sL_same, d.2]⟩
theorem DG.st {τ τ' : vSt} {x : Sn} {L : List Sn} {T : List Int32} {a : Int64} (d : DG τ x L T a) (r : RF τ' x L T) (h2 : τ'.2 = τ.2) : DG τ' x L T a := ⟨r, by
  have := d.2
  unfold gL at this ⊢
  rw [h2]; exact this⟩
theorem fold_gen {x : Sn} {L : List Sn} {T : List Int32} {N : Nat} {f : Nat → Int32} (F : Nat → Int32 → vSt → Option vSt) (hst : ∀ n i τ a, DG τ x L T a → i < N → ∃ τ', F (n + 1) (nI i) τ = F n (nI (i + 1)) τ' ∧ DG τ' x L T (mx a (f i))) (hen : ∀ n τ a, DG τ x L T a → F (n + 1) (nI N) τ = some τ) : ∀ (n i : Nat) (τ : vSt) (a : Int64), DG τ x L T a → i ≤ N → N < i + n → ∃ τ', F n (nI i) τ = some τ' ∧ DG τ' x L T (fmx f i (N - i) a) := by
  intro n
  induction n with
  | zero => intro i τ a _ h1 h2; omega
  | succ n ih =>
    intro i τ a d h1 h2
    by_cases hi : i = N
    · rw [hi, hen n τ a d, Nat.sub_self]
      exact ⟨τ, rfl, d⟩
    · obtain ⟨τ1, e1, d1⟩ := hst n i τ a d (by omega)
      rw [e1, show N - i = (N - (i + 1)) + 1 by omega]
      exact ih (i + 1) τ1 _ d1 (by omega) (by omega)
theorem nI_inj {a b : Nat} (ha : a < 2 ^ 31) (hb : b < 2 ^ 31) (e : nI a = nI b) : a = b := (nI_eq ha hb).mp e
theorem m_count' {τ : vSt} {x : Sn} {L : List Sn} {T : List Int32} (q : RF τ x L T) {i : Nat} (hi : i < 16) : f_X7_count (nI i) τ = some (cntV x L T i) := by
  rcases m_count q (nI i) with ⟨k, hk, e, h⟩ | ⟨hn, _⟩
  · have := nI_inj (by omega) (by omega) e
    subst this
    exact h
  · exact absurd rfl (hn i (by omega))
theorem m_hint' {τ : vSt} {x : Sn} {L : List Sn} {T : List Int32} (q : RF τ x L T) {i : Nat} (hi : i < 4) : ∃ τ', f_X7_hint (nI i) τ = some (hintV x i, τ') ∧ RF τ' x L T ∧ τ'.2 = τ.2 := by
  rcases m_hint q (nI i) with ⟨k, τ', hk, e, h⟩ | ⟨hn, _⟩
  · have := nI_inj (by omega) (by omega) e
    subst this
    exact ⟨τ', h⟩
  · exact absurd rfl (hn i (by omega))
def txV (T : List Int32) (i : Nat) : Int32 := T.getD i 0
theorem tx_get {T : List Int32} {i : Nat} (hi : i < T.length) : T[i]? = some (txV T i) := by
  unfold txV
  rw [List.getElem?_eq_getElem hi, List.getD_eq_getElem?_getD, List.getElem?_eq_getElem hi]
  rfl
noncomputable def digV (x : Sn) (L : List Sn) (T : List Int32) : Int64 :=
  fmx (txV T) 0 T.length (mx (mx (mx (fmx (hintV x) 0 4 (fmx (fun i => misV x (nI i)) 0 5 (fmx (fun e => nI (x.mk e)) 0 (gE x.w x.h) (fmx x.cnt 0 (gC x.w x.h) (fmx (cntV x L T) 0 16 157))))) (nI (SR x.w x.h x.cnt x.mk 2).2.1)) (nodV x 2)) (tI (gdV x.w x.h x.cnt)))
theorem m_digest {τ : vSt} {x : Sn} {L : List Sn} {T : List Int32} (q : RF τ x L T) : ∃ τ', f_X7_digest τ = some (digV x L T, τ') ∧ RF τ' x L T := by
  have hd := q.2.1.1
  have h40 := gE_40 hd
  have h16 := gC_16 hd
  have ht := q.2.2.2.2.1
  unfold f_X7_digest
  simp only [ob]
  have d0 : DG (sL τ 0 29 (157 : Int64)) x L T 157 := ⟨q.sl _, sL_same _ _⟩
  obtain ⟨τ1, e1, d1⟩ := fold_gen (N := 16) (f := cntV x L T) f_X7_digest_9 (by
    intro n i τ a d hi
    refine ⟨_, ?_, d.mx (cntV x L T i)⟩
    rw [f_X7_digest_9.eq_2, if_neg (by rw [nI_leI (by decide) (by omega)]; omega), m_count' d.1 hi]
    simp only [ob]
    rw [m_mixes]
    simp only [ob]
    rw [nI_1 i]) (by intro n τ a d; rw [f_X7_digest_9.eq_2, if_pos (by decide)]) 600 0 _ _ d0 (by decide) (by decide)
  rw [e1]
  simp only [ob]
  obtain ⟨τ2, e2, d2⟩ := fold_gen (N := gC x.w x.h) (f := x.cnt) f_X7_digest_32 (by
    intro n i τ a d hi
    refine ⟨_, ?_, d.mx (x.cnt i)⟩
    rw [f_X7_digest_32.eq_2, m_cells d.1.mg.1]
    simp only [ob]
    rw [if_neg (by rw [nI_leI (by omega) (by omega)]; omega), if_pos (g2 (by omega)).2, (g2 (by omega)).1, d.1.mg.2.1 i (by omega), m_mixes]
    simp only [ob]
    rw [nI_1 i]) (by
    intro n τ a d
    rw [f_X7_digest_32.eq_2, m_cells d.1.mg.1]
    simp only [ob]
    rw [if_pos ((nI_leI (by omega) (by omega)).mpr (Nat.le_refl _))]) 600 0 _ _ d1 (Nat.zero_le _) (by omega)
  rw [e2]
  simp only [ob]
  obtain ⟨τ3, e3, d3⟩ := fold_gen (N := gE x.w x.h) (f := fun e => nI (x.mk e)) f_X7_digest_60 (by
    intro n i τ a d hi
    refine ⟨_, ?_, d.mx (nI (x.mk i))⟩
    rw [f_X7_digest_60.eq_2, m_edges d.1.mg.1]
    simp only [ob]
    rw [if_neg (by rw [nI_leI (by omega) (by omega)]; omega), m_markOf d.1.mg (by omega)]
    simp only [ob]
    rw [m_mixes]
    simp only [ob]
    rw [nI_1 i]) (by
    intro n τ a d
    rw [f_X7_digest_60.eq_2, m_edges d.1.mg.1]
    simp only [ob]
    rw [if_pos ((nI_leI (by omega) (by omega)).mpr (Nat.le_refl _))]) 600 0 _ _ d2 (Nat.zero_le _) (by omega)
  rw [e3]
  simp only [ob]
  obtain ⟨τ4, e4, d4⟩ := fold_gen (N := 5) (f := fun i => misV x (nI i)) f_X7_digest_85 (by
    intro n i τ a d hi
    obtain ⟨τ', e, r, h2⟩ := m_misfit d.1 (nI i)
    refine ⟨_, ?_, (d.st r h2).mx (misV x (nI i))⟩
    rw [f_X7_digest_85.eq_2, if_neg (by rw [nI_leI (by decide) (by omega)]; omega), e]
    simp only [ob]
    rw [m_mixes]
    simp only [ob]
    rw [nI_1 i]) (by intro n τ a d; rw [f_X7_digest_85.eq_2, if_pos (by decide)]) 600 0 _ _ d3 (by decide) (by decide)
  rw [e4]
  simp only [ob]
  obtain ⟨τ5, e5, d5⟩ := fold_gen (N := 4) (f := hintV x) f_X7_digest_107 (by
    intro n i τ a d hi
    obtain ⟨τ', e, r, h2⟩ := m_hint' d.1 hi
    refine ⟨_, ?_, (d.st r h2).mx (hintV x i)⟩
    rw [f_X7_digest_107.eq_2, if_neg (by rw [nI_leI (by decide) (by omega)]; omega), e]
    simp only [ob]
    rw [m_mixes]
    simp only [ob]
    rw [nI_1 i]) (by intro n τ a d; rw [f_X7_digest_107.eq_2, if_pos (by decide)]) 600 0 _ _ d4 (by decide) (by decide)
  rw [e5]
  simp only [ob]
  obtain ⟨τ6, e6, r6, h6⟩ : ∃ τ', f_X7_solutions (nI 2) τ5 = some (nI (SR x.w x.h x.cnt x.mk 2).2.1, τ') ∧ RF τ' x L T ∧ τ'.2 = τ5.2 := by
    rcases m_solutions d5.1 (nI 2) with ⟨l, τ', a1, a2, e, h⟩ | ⟨hn, _⟩
    · have := nI_inj (by decide) (by omega) e
      subst this
      exact ⟨τ', h⟩
    · exact absurd rfl (hn 2 (by decide) (by decide))
  have d6 := (d5.st r6 h6).mx (nI (SR x.w x.h x.cnt x.mk 2).2.1)
  rw [e6]
  simp only [ob]
  rw [m_mixes]
  simp only [ob]
  generalize sL τ6 0 29 (mx (gL τ6 0 29) (nI (SR x.w x.h x.cnt x.mk 2).2.1)) = τ6' at d6 ⊢
  obtain ⟨τ7, e7, r7, h7⟩ : ∃ τ', f_X7_nodes (nI 2) τ6' = some (nodV x 2, τ') ∧ RF τ' x L T ∧ τ'.2 = τ6'.2 := by
    rcases m_nodes d6.1 (nI 2) with ⟨l, τ', a1, a2, e, h⟩ | ⟨hn, _⟩
    · have := nI_inj (by decide) (by omega) e
      subst this
      exact ⟨τ', h⟩
    · exact absurd rfl (hn 2 (by decide) (by decide))
  have d7 := (d6.st r7 h7).mx (nodV x 2)
  rw [e7]
  simp only [ob]
  rw [m_mixes]
  simp only [ob]
  generalize sL τ7 0 29 (mx (gL τ7 0 29) (nodV x 2)) = τ7' at d7 ⊢
  obtain ⟨τ8, e8, r8, h8⟩ := m_gradeR d7.1
  have d8 := (d7.st r8 h8).mx (tI (gdV x.w x.h x.cnt))
  rw [e8]
  simp only [ob]
  rw [m_mixes]
  simp only [ob]
  obtain ⟨τ9, e9, d9⟩ := fold_gen (N := T.length) (f := txV T) f_X7_digest_155 (by
    intro n i τ a d hi
    refine ⟨_, ?_, d.mx (txV T i)⟩
    have hx := d.1.2.2.2.2.2 i _ (tx_get hi)
    rw [f_X7_digest_155.eq_2, d.1.2.2.2.1, if_neg (by rw [nI_leI (by omega) (by omega)]; omega), if_pos (ig (by omega) (by omega)), nI_clamp (by omega), hx, m_mixes]
    simp only [ob]
    rw [nI_1 i]) (by
    intro n τ a d
    rw [f_X7_digest_155.eq_2, d.1.2.2.2.1, if_pos ((nI_leI (by omega) (by omega)).mpr (Nat.le_refl _))]) 600 0 _ _ d8 (Nat.zero_le _) (by omega)
  rw [e9]
  simp only [ob]
  exact ⟨τ9, by rw [d9.2]; rfl, d9.1⟩
