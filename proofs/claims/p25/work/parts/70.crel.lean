/-! BOTH SIDES: the relation; the writers -/
def CR (σ : vSt) (x : Sn) (L : List Sn) (T : List Int32) : Prop := GD σ x.w x.h x.cnt ∧ SY σ 6 x.w x.h x.cnt x.mk ∧ (∀ r, r < 8 → gI σ 9 r = x.us r) ∧ HC σ L ∧ TC σ T
def Wa (q j : Nat) : Prop := (q = 6 ∧ 10 ≤ j) ∨ (11 ≤ q ∧ q ≤ 19)
def Wb (q j : Nat) : Prop := 11 ≤ q ∧ q ≤ 19
theorem TC_fg {σ σ' : vSt} {T : List Int32} (t : TC σ T) (hI : ∀ q j, (q = 27 ∧ j = 2) ∨ q = 28 → gI σ' q j = gI σ q j) : TC σ' T := ⟨(hI 27 2 (Or.inl ⟨rfl, rfl⟩)).trans t.1, t.2.1, fun i c hc => (hI 28 i (Or.inr rfl)).trans (t.2.2 i c hc)⟩
theorem CR.sc {σ σ' : vSt} {x : Sn} {L : List Sn} {T : List Int32} (c : CR σ x L T) (f : FG Wa Wb σ σ') : CR σ' x L T := by
  obtain ⟨g, s, u, hh, t⟩ := c
  refine ⟨g.fg f (fun q j z => by unfold Wa at z; omega) (fun q j z => by unfold Wb at z; omega), SY_of s (fun j _ _ _ => f.1 6 j (fun z => by unfold Wa at z; omega)) (fun j _ => f.1 7 j (fun z => by unfold Wa at z; omega)) (fun j _ => f.2 6 j (fun z => by unfold Wb at z; omega)), fun r hr => ?_, hh.fg (fun q j a b => f.1 q j (fun z => by unfold Wa at z; omega)) (fun q j a b => f.2 q j (fun z => by unfold Wb at z; omega)), TC_fg t (fun q j z => f.1 q j (fun z2 => by unfold Wa at z2; omega))⟩
  rw [f.1 9 r (fun z => by unfold Wa at z; omega)]; exact u r hr
theorem CR.fc {σ σ' : vSt} {x : Sn} {L : List Sn} {T : List Int32} (c : CR σ x L T) (f : Fc σ σ') : CR σ' x L T := by
  obtain ⟨g, s, u, hh, t⟩ := c
  have hL : ∀ q j, gL σ' q j = gL σ q j := fun q j => by unfold gL; rw [f.2]
  have k : FG (fun q j => (q = 27 ∧ (j = 3 ∨ j = 4 ∨ j = 5)) ∨ q = 29) (fun _ _ => False) σ σ' := ⟨fun q j h => f.1 q j (fun z => h (Or.inl z)) (fun z => h (Or.inr z)), fun q j _ => hL q j⟩
  refine ⟨g.fg k (fun q j z => by omega) (fun q j z => z.elim), SY_of s (fun j _ _ _ => k.1 6 j (by omega)) (fun j _ => k.1 7 j (by omega)) (fun j _ => hL 6 j), fun r hr => ?_, hh.fg (fun q j a b => k.1 q j (by omega)) (fun q j a b => hL q j), t.fc f⟩
  rw [k.1 9 r (by omega)]; exact u r hr
theorem CR.keep {σ : vSt} {x : Sn} {L : List Sn} {T : List Int32} (c : CR σ x L T) : ∃ σ', f_X2_keep σ = some σ' ∧ CR σ' x (kp L x) T ∧ FG WHi WHl σ σ' := by
  obtain ⟨g, s, u, hh, t⟩ := c
  obtain ⟨σ', e, f, h2⟩ := k_keep g s.1 u hh
  refine ⟨σ', e, ⟨g.fg f (fun q j z => by unfold WHi at z; omega) (fun q j z => by unfold WHl at z; omega), SY_of s (fun j _ _ _ => f.1 6 j (fun z => by unfold WHi at z; omega)) (fun j _ => f.1 7 j (fun z => by unfold WHi at z; omega)) (fun j _ => f.2 6 j (fun z => by unfold WHl at z; omega)), fun r hr => ?_, h2, TC_fg t (fun q j z => f.1 q j (fun z2 => by unfold WHi at z2; omega))⟩, f⟩
  rw [f.1 9 r (fun z => by unfold WHi at z; omega)]; exact u r hr
theorem CR_begin {σ : vSt} {x : Sn} {L : List Sn} {T : List Int32} (g : GD σ x.w x.h x.cnt) (u : ∀ r, r < 8 → gI σ 9 r = x.us r) (hh : HC σ L) (t : TC σ T) {l1 l3 : Int64} (hl1 : ∀ e, bt l1 e = decide (e < gE x.w x.h ∧ x.mk e = 1)) (hl3 : ∀ e, bt l3 e = decide (e < gE x.w x.h ∧ x.mk e = 0)) : ∃ σ', f_X0_begin 6 l1 l3 σ = some σ' ∧ CR σ' x L T ∧ ∀ q j, q ≠ 6 → q ≠ 7 → gI σ' q j = gI σ q j := by
  obtain ⟨σ', e, f, s⟩ := k_begin (b := 6) (by decide) g hl1 hl3
  refine ⟨σ', e, ⟨g.fb (by decide) f, s, fun r hr => ?_, hh.fg (fun q j a b => f.1 q j (by omega) (by omega)) (fun q j a b => f.2.1 q j (by omega)), TC_fg t (fun q j z => f.1 q j (by omega) (by omega))⟩, f.1⟩
  rw [f.1 9 r (by decide) (by decide)]; exact u r hr
def OKL (L : List Sn) : Prop := ∀ (s : Nat) (y : Sn), L[s]? = some y → okS y
def OKT (T : List Int32) : Prop := ∀ (i : Nat) (c : Int32), T[i]? = some c → ∃ k, k ≤ 127 ∧ c = nI k
theorem OKL.kp {L : List Sn} {x : Sn} (o : OKL L) (h8 : L.length ≤ 8) (ox : okS x) : OKL (kp L x) := by
  intro s y hy
  rcases kp_get h8 hy with ⟨_, rfl⟩ | ⟨_, c⟩
  · exact ox
  · exact o _ y c
theorem OKL.take {L : List Sn} (o : OKL L) (n : Nat) : OKL (L.take n) := by
  intro s y hy
  rcases Nat.lt_or_ge s n with z | z
  · rw [List.getElem?_take_of_lt z] at hy; exact o s y hy
  · rw [List.getElem?_eq_none (by rw [List.length_take]; omega)] at hy; cases hy
theorem OKT.ne {T : List Int32} (o : OKT T) : ∀ i, i < T.length → ¬ txV T i = -1 := by
  intro i hi q
  obtain ⟨k, hk, e⟩ := o i _ (tx_get hi)
  rw [q] at e
  exact nI_nem1 (by omega) e.symm
def Rl (σ τ : vSt) : Prop := ∃ x L T, CR σ x L T ∧ RF τ x L T ∧ OKL L ∧ OKT T
theorem k_rng {a : Int32} {lo M : Nat} (hlo : lo ≤ M) (hM : M < 1000) : (∃ e, lo ≤ e ∧ e ≤ M ∧ a = nI e ∧ ¬ a < nI lo ∧ a ≤ nI M) ∨ ((∀ e, lo ≤ e → e ≤ M → a ≠ nI e) ∧ (a < nI lo ∨ ¬ a ≤ nI M)) := by
  by_cases h1 : a < nI lo
  · refine Or.inr ⟨fun e he he2 q => ?_, Or.inl h1⟩
    rw [q, nI_ltI (by omega) (by omega)] at h1
    omega
  · obtain ⟨j, hj, rfl, hl⟩ := nI_gel (by omega) h1
    by_cases h2 : j ≤ M
    · exact Or.inl ⟨j, hl, h2, rfl, h1, (nI_leI hj (by omega)).mpr h2⟩
    · refine Or.inr ⟨fun e he he2 q => ?_, Or.inr (by rw [nI_leI hj (by omega)]; exact h2)⟩
      rw [nI_eq hj (by omega)] at q
      omega
theorem k_hasCellG {σ : vSt} {w h : Nat} (g : GF σ w h) (a : Int32) : (∃ c, c < gC w h ∧ a = nI c ∧ f_X1_hasCell a σ = some (nI 1)) ∨ ((∀ c, c < gC w h → a ≠ nI c) ∧ f_X1_hasCell a σ = some (nI 0)) := by
  have h16 := gC_16 g.1
  have hp := gE_pos g.1
  rcases k_rng (a := a) (lo := 0) (M := gC w h - 1) (Nat.zero_le _) (by omega) with ⟨c, _, h2, rfl, _, _⟩ | ⟨n1, n2⟩
  · exact Or.inl ⟨c, by omega, rfl, k_hasCell g (by omega)⟩
  · refine Or.inr ⟨fun c hc => n1 c (Nat.zero_le _) (by omega), ?_⟩
    unfold f_X1_hasCell
    rw [g.2.2.2.1]
    by_cases z : a < nI 0
    · rw [if_pos z]
    · rw [if_neg z]
      obtain ⟨j, hj, rfl, _⟩ := nI_gel (by decide) z
      rw [if_pos]
      rw [nI_leI (by omega) hj]
      rcases n2 with q | q
      · exact absurd q z
      · rw [nI_leI hj (by omega)] at q; omega
theorem k_hasCornerG {σ : vSt} {w h : Nat} (g : GF σ w h) (a : Int32) : (∃ c, c < gK w h ∧ a = nI c ∧ f_X1_hasCorner a σ = some (nI 1)) ∨ ((∀ c, c < gK w h → a ≠ nI c) ∧ f_X1_hasCorner a σ = some (nI 0)) := by
  have h16 := gK_25 g.1
  have hp := gK_pos g.1
  rcases k_rng (a := a) (lo := 0) (M := gK w h - 1) (Nat.zero_le _) (by omega) with ⟨c, _, h2, rfl, _, _⟩ | ⟨n1, n2⟩
  · exact Or.inl ⟨c, by omega, rfl, k_hasCorner g (by omega)⟩
  · refine Or.inr ⟨fun c hc => n1 c (Nat.zero_le _) (by omega), ?_⟩
    unfold f_X1_hasCorner
    rw [g.2.2.2.2.1]
    by_cases z : a < nI 0
    · rw [if_pos z]
    · rw [if_neg z]
      obtain ⟨j, hj, rfl, _⟩ := nI_gel (by decide) z
      rw [if_pos]
      rw [nI_leI (by omega) hj]
      rcases n2 with q | q
      · exact absurd q z
      · rw [nI_leI hj (by omega)] at q; omega
theorem s_type : Stp_0 Rl := by
  intro σ τ a _ _ ⟨x, L, T, c, r, o1, o2⟩
  have h40 := c.2.2.2.2.2.1
  unfold f_X6_type
  rcases m_type r a with ⟨⟨k, hk, rfl⟩, h⟩ | ⟨hn, e2⟩
  · rw [if_neg (by rw [nI_ltI (by omega) (by decide)]; omega), if_pos ((nI_leI (by omega) (by decide)).mpr hk)]
    rcases k_append c.2.2.2.2 hk with ⟨a1, a2⟩ | ⟨a1, σ', a2, a3, a4, a5⟩
    · rcases h with ⟨b1, b2⟩ | ⟨b1, _⟩
      · rw [a2]
        exact ⟨_, σ, τ, rfl, b2, x, L, T, c, r, o1, o2⟩
      · omega
    · rcases h with ⟨b1, _⟩ | ⟨b1, τ', b2, b3⟩
      · omega
      · rw [a2]
        have hL : ∀ q j, gL σ' q j = gL σ q j := fun q j => by unfold gL; rw [a5]
        have kf : FG (fun q j => (q = 27 ∧ j = 2) ∨ q = 28) (fun _ _ => False) σ σ' := ⟨fun q j h => a4 q j (by omega) (by omega), fun q j _ => hL q j⟩
        refine ⟨_, σ', τ', rfl, b2, x, L, T ++ [nI k], ⟨c.1.fg kf (fun q j z => by omega) (fun q j z => z.elim), SY_of c.2.1 (fun j _ _ _ => kf.1 6 j (by omega)) (fun j _ => kf.1 7 j (by omega)) (fun j _ => hL 6 j), fun r2 hr => by rw [kf.1 9 r2 (by omega)]; exact c.2.2.1 r2 hr, c.2.2.2.1.fg (fun q j a b => kf.1 q j (by omega)) (fun q j a b => hL q j), a3⟩, b3, o1, fun i d hd => ?_⟩
        rw [List.getElem?_append] at hd
        by_cases z : i < T.length
        · rw [if_pos z] at hd; exact o2 i d hd
        · rw [if_neg z] at hd
          by_cases z2 : i - T.length = 0
          · rw [z2] at hd; exact ⟨k, hk, (Option.some.inj hd).symm⟩
          · rw [List.getElem?_eq_none (by simp; omega)] at hd; cases hd
  · rcases k_rng (a := a) (lo := 0) (M := 127) (by decide) (by decide) with ⟨e, _, h2, rfl, _, _⟩ | ⟨_, n2⟩
    · exact absurd rfl (hn e h2)
    · by_cases z : a < nI 0
      · rw [if_pos z]
        exact ⟨_, σ, τ, rfl, e2, x, L, T, c, r, o1, o2⟩
      · rw [if_neg z, if_neg (n2.resolve_left z)]
        exact ⟨_, σ, τ, rfl, e2, x, L, T, c, r, o1, o2⟩
theorem s_clear : Stp_1 Rl := by
  intro σ τ _ _ _ ⟨x, L, T, c, r, o1, o2⟩
  obtain ⟨τ', e2, r2⟩ := m_clearText r
  have kf : FG (fun q j => q = 27 ∧ j = 2) (fun _ _ => False) σ (sI σ 27 2 (nI 0)) := FG.wI (WI := fun q j => q = 27 ∧ j = 2) FG.rf ⟨rfl, rfl⟩
  refine ⟨nI T.length, sI σ 27 2 (nI 0), τ', ?_, e2, x, L, [], ⟨c.1.fg kf (fun q j z => by omega) (fun q j z => z.elim), SY_of c.2.1 (fun j _ _ _ => kf.1 6 j (by omega)) (fun j _ => kf.1 7 j (by omega)) (fun j _ => rfl), fun r2 hr => by rw [kf.1 9 r2 (by omega)]; exact c.2.2.1 r2 hr, c.2.2.2.1.fg (fun q j a b => kf.1 q j (by omega)) (fun q j a b => rfl), ⟨sI_same _ _ _ _, by decide, fun i d hd => by simp at hd⟩⟩, r2, o1, fun i d hd => by simp at hd⟩
  unfold f_X6_clearText
  simp only [ob]
  rw [c.2.2.2.2.1]
theorem s_fault : Stp_2 Rl := by
  intro σ τ _ _ _ ⟨x, L, T, c, r, o1, o2⟩
  obtain ⟨τ', e2, r2⟩ := m_fault r o2.ne
  unfold f_X6_fault
  obtain ⟨σ', f, ⟨q, a1, a2⟩ | ⟨w, h, cs, a1, _, _, a2, _⟩⟩ := k_read c.2.2.2.2
  · rw [a2]
    refine ⟨nI q, σ', τ', rfl, ?_, x, L, T, c.fc f, r2, o1, o2⟩
    rw [e2]; unfold fltV; rw [a1]
  · rw [a2]
    refine ⟨-1, σ', τ', rfl, ?_, x, L, T, c.fc f, r2, o1, o2⟩
    rw [e2]; unfold fltV; rw [a1]
theorem cok_in {b : Int32} : (cok b → ¬ b < -1 ∧ b ≤ nI 3) ∧ (¬ cok b → b < -1 ∨ ¬ b ≤ nI 3) := by
  constructor
  · intro h
    rcases h with rfl | rfl | rfl | rfl | rfl <;> decide
  · intro h
    rcases m_in3 b with ⟨a, _⟩ | ⟨_, a⟩
    · exact absurd a h
    · unfold f_X7_in at a
      by_cases z : b < -1
      · exact Or.inl z
      · rw [if_neg z] at a
        by_cases z2 : nI 3 < b
        · right
          intro z3
          rw [Int32.lt_iff_toInt_lt] at z2
          rw [Int32.le_iff_toInt_le] at z3
          omega
        · rw [if_neg z2] at a
          exact absurd (Option.some.inj a) (by decide)
theorem s_setCount : Stp_4 Rl := by
  intro σ τ a b _ ⟨x, L, T, c, r, o1, o2⟩
  have h16 := gC_16 r.2.1.1
  unfold f_X6_setCount
  rcases m_setCount r a b with ⟨k, τ', hk, rfl, hb, e2, r2⟩ | ⟨hn, e2⟩
  · rw [k_hasCell c.1.1 hk]
    simp only [ob]
    rw [if_neg (by decide), if_neg (cok_in.1 hb).1, if_pos (cok_in.1 hb).2]
    obtain ⟨σ1, e1, c1, _⟩ := c.keep
    rw [e1]
    simp only [ob]
    rw [if_pos (ig (by omega) (by omega)), if_pos (ig (by omega) (by omega)), nI_clamp (by omega), c1.1.2.2.1 k (by omega)]
    have g2 : GD (sI σ1 1 k b) x.w x.h (scn x k b).cnt := by
      refine c1.1.row1 (fun q j h1 h2 => sI_ne _ _ (Or.inl h2)) (fun q j _ => rfl) (fun j hj => ?_)
      show _ = if j = k then b else x.cnt j
      rw [sI_if]
      by_cases z : j = k
      · rw [if_pos ⟨rfl, z⟩, if_pos z]
      · rw [if_neg (fun q => z q.2), if_neg z]; exact c1.1.2.2.1 j hj
    obtain ⟨σ2, e3, c3, _⟩ := CR_begin (x := scn x k b) (L := kp L x) (T := T) g2 (fun r2 hr => by rw [sI_ne _ _ (Or.inl (by decide))]; exact c1.2.2.1 r2 hr) (c1.2.2.2.1.fg (fun q j h1 h2 => sI_ne _ _ (Or.inl (by omega))) (fun q j _ _ => rfl)) (TC_fg c1.2.2.2.2 (fun q j z => sI_ne _ _ (Or.inl (by omega)))) (l1 := gL (sI σ1 1 k b) 6 2) (l3 := gL (sI σ1 1 k b) 6 3) c1.2.1.1.1 c1.2.1.1.2
    rw [e3]
    exact ⟨x.cnt k, σ2, τ', rfl, e2, scn x k b, kp L x, T, c3, r2, o1.kp r.2.2.1.2.1 r.2.1, o2⟩
  · refine ⟨-2, σ, τ, ?_, e2, x, L, T, c, r, o1, o2⟩
    rcases k_hasCellG c.1.1 a with ⟨k, hk, rfl, e1⟩ | ⟨_, e1⟩
    · rw [e1]
      simp only [ob]
      rw [if_neg (by decide)]
      have hb : ¬ cok b := by
        rcases hn with z | z
        · exact absurd rfl (z k hk)
        · exact z
      rcases cok_in.2 hb with z | z
      · rw [if_pos z]
      · by_cases z2 : b < -1
        · rw [if_pos z2]
        · rw [if_neg z2, if_neg z]
    · rw [e1]
      simp only [ob]
      rw [if_pos trivial]
