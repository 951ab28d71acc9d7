/-! THE REFERENCE'S OTHER CALLS -/
theorem m_type {τ : vSt} {x : Sn} {L : List Sn} {T : List Int32} (q : RF τ x L T) (a : Int32) : ((∃ k, k ≤ 127 ∧ a = nI k) ∧ ((T.length = 40 ∧ f_X7_type a τ = some (-4, τ)) ∨ (T.length < 40 ∧ ∃ τ', f_X7_type a τ = some (nI (T.length + 1), τ') ∧ RF τ' x L (T ++ [a])))) ∨ ((∀ k, k ≤ 127 → a ≠ nI k) ∧ f_X7_type a τ = some (-2, τ)) := by
  obtain ⟨t1, t2, t3⟩ := q.2.2.2
  unfold f_X7_type
  rcases m_in (a := a) (lo := 0) (M := 127) (by decide) (by decide) with ⟨k, _, hk, rfl, hi⟩ | ⟨hn, hi⟩
  · left
    refine ⟨⟨k, hk, rfl⟩, ?_⟩
    rw [hi]
    simp only [ob]
    rw [if_neg (by decide), t1]
    by_cases c : T.length = 40
    · rw [if_pos (by rw [c])]
      exact Or.inl ⟨c, rfl⟩
    · right
      refine ⟨by omega, ?_⟩
      rw [if_neg (by rw [nI_eq (by omega) (by decide)]; exact c), if_pos (ig (by omega) (by omega)), nI_clamp (by omega), sI_same, sI_ne τ _ (Or.inl (by decide)), t1, nI_add]
      have k1 : ∀ q' j, q' ≠ 3 → ¬ (q' = 0 ∧ j = 4) → gI (sI (sI τ 3 T.length (nI k)) 0 4 (nI (T.length + 1))) q' j = gI τ q' j := fun q' j h1 h2 => by
        rw [sI_ne _ _ (by omega), sI_ne _ _ (Or.inl h1)]
      refine ⟨_, rfl, fun j hj => (k1 1 j (by decide) (by omega)).trans (q.1 j hj), q.2.1, q.2.2.1.same (k1 0 2 (by decide) (by omega)) (fun j => k1 2 j (by decide) (by omega)), ?_, ?_, ?_⟩
      · rw [sI_same, List.length_append]; rfl
      · rw [List.length_append]; show T.length + 1 ≤ 40; omega
      · intro i c' hc
        rw [sI_ne _ _ (Or.inl (by decide))]
        by_cases hi1 : i < T.length
        · rw [List.getElem?_append_left hi1] at hc
          rw [sI_ne _ _ (Or.inr (by omega))]
          exact t3 i c' hc
        · rw [List.getElem?_append_right (by omega)] at hc
          by_cases hi2 : i = T.length
          · subst hi2
            rw [Nat.sub_self] at hc
            rw [sI_same]
            exact Option.some.inj hc
          · rw [List.getElem?_eq_none (by rw [List.length_singleton]; omega)] at hc
            exact absurd hc (by simp)
  · rw [hi]
    exact Or.inr ⟨fun k hk => hn k (Nat.zero_le _) hk, rfl⟩
theorem m_clearText {τ : vSt} {x : Sn} {L : List Sn} {T : List Int32} (q : RF τ x L T) : ∃ τ', f_X7_clearText τ = some (nI T.length, τ') ∧ RF τ' x L [] := by
  unfold f_X7_clearText
  simp only [ob]
  rw [q.2.2.2.1]
  have k1 : ∀ q' j, ¬ (q' = 0 ∧ j = 4) → gI (sI τ 0 4 (nI 0)) q' j = gI τ q' j := fun q' j h2 => by rw [sI_ne _ _ (by omega)]
  exact ⟨_, rfl, fun j hj => (k1 1 j (by omega)).trans (q.1 j hj), q.2.1, q.2.2.1.same (k1 0 2 (by omega)) (fun j => k1 2 j (by omega)), sI_same _ _ _ _, Nat.zero_le _, fun i c hc => absurd hc (by simp)⟩
noncomputable def misV (x : Sn) (a : Int32) : Int32 := if a = nI 0 then tI (lst (gC x.w x.h) (badC x.w x.h x.cnt x.mk)) else if a = nI 1 then tI (lst (gK x.w x.h) (badK x.w x.h x.mk)) else if a = nI 2 then tI (lst (gE x.w x.h) (badR x.w x.h x.cnt x.mk)) else if a = nI 3 then pI (fitA x.w x.h x.cnt x.mk) else if a = nI 4 then pI (fitA x.w x.h x.cnt x.mk ∧ hasR x.w x.h x.mk) else -2
theorem m_misfit {τ : vSt} {x : Sn} {L : List Sn} {T : List Int32} (q : RF τ x L T) (a : Int32) : ∃ τ', f_X7_misfit a τ = some (misV x a, τ') ∧ RF τ' x L T ∧ τ'.2 = τ.2 := by
  obtain ⟨τ1, e1, s1, k1⟩ := m_fits q.mg
  refine ⟨τ1, ?_, q.fl s1, s1.2.2⟩
  unfold f_X7_misfit misV
  rw [e1]
  simp only [ob]
  rw [k1.1, k1.2.1, k1.2.2.1, k1.2.2.2]
  by_cases c0 : a = nI 0
  · rw [if_pos c0, if_pos c0]
  rw [if_neg c0, if_neg c0]
  by_cases c1 : a = nI 1
  · rw [if_pos c1, if_pos c1]
  rw [if_neg c1, if_neg c1]
  by_cases c2 : a = nI 2
  · rw [if_pos c2, if_pos c2]
  rw [if_neg c2, if_neg c2]
  by_cases c3 : a = nI 3
  · rw [if_pos c3, if_pos c3]
    by_cases f : fitA x.w x.h x.cnt x.mk
    · rw [pI_t f, if_neg (by decide)]
    · rw [pI_f f, if_pos rfl]
  rw [if_neg c3, if_neg c3]
  by_cases c4 : a = nI 4
  · rw [if_pos c4, if_pos c4]
    by_cases f : fitA x.w x.h x.cnt x.mk
    · rw [pI_t f, if_neg (by decide)]
      by_cases r : hasR x.w x.h x.mk
      · rw [pI_t r, if_neg (by decide), pI_t ⟨f, r⟩]
      · rw [pI_f r, if_pos rfl, pI_f (fun z => r z.2)]
    · rw [pI_f f, if_pos rfl, pI_f (fun z => f z.1)]
  rw [if_neg c4, if_neg c4]
noncomputable def hintV (x : Sn) (k : Nat) : Int32 := @ite _ (fitA x.w x.h x.cnt x.mk) (Classical.propDecidable _) (match dN x.w x.h x.cnt x.mk 7 with
  | none => -1
  | some (r, e, p) => if k = 0 then nI r else if k = 1 then nI e else if k = 2 then nI (bec r) else tI p) (-3)
theorem m_hint {τ : vSt} {x : Sn} {L : List Sn} {T : List Int32} (q : RF τ x L T) (a : Int32) : (∃ k τ', k ≤ 3 ∧ a = nI k ∧ f_X7_hint a τ = some (hintV x k, τ') ∧ RF τ' x L T ∧ τ'.2 = τ.2) ∨ ((∀ k, k ≤ 3 → a ≠ nI k) ∧ f_X7_hint a τ = some (-2, τ)) := by
  unfold f_X7_hint
  rcases m_in (a := a) (lo := 0) (M := 3) (by decide) (by decide) with ⟨k, _, hk, rfl, hi⟩ | ⟨hn, hi⟩
  · left
    obtain ⟨τ1, e1, s1, k1⟩ := m_fits q.mg
    have q1 := q.fl s1
    rw [hi]
    simp only [ob]
    rw [if_neg (by decide), e1]
    simp only [ob]
    by_cases f : fitA x.w x.h x.cnt x.mk
    · rw [pI_t f, if_neg (by decide)]
      obtain ⟨τ3, s3, ⟨x3, y3⟩ | ⟨r, e, p, x3, y3, z3⟩⟩ := m_findsNext q1.mg (l := 7) (by decide)
      · rw [y3]
        simp only [ob]
        rw [if_pos trivial]
        refine ⟨k, τ3, hk, rfl, ?_, q1.fb s3, s3.2.2.trans s1.2.2⟩
        unfold hintV
        rw [if_pos f, x3]
      · rw [y3]
        simp only [ob]
        rw [if_neg (by decide), z3.1, z3.2.1, z3.2.2.1, z3.2.2.2]
        refine ⟨k, τ3, hk, rfl, ?_, q1.fb s3, s3.2.2.trans s1.2.2⟩
        unfold hintV
        rw [if_pos f, x3]
        rcases (show k = 0 ∨ k = 1 ∨ k = 2 ∨ k = 3 by omega) with rfl | rfl | rfl | rfl <;> rfl
    · rw [pI_f f, if_pos rfl]
      refine ⟨k, τ1, hk, rfl, ?_, q1, s1.2.2⟩
      unfold hintV
      rw [if_neg f]
  · rw [hi]
    exact Or.inr ⟨fun k hk => hn k (Nat.zero_le _) hk, rfl⟩
theorem m_solutions {τ : vSt} {x : Sn} {L : List Sn} {T : List Int32} (q : RF τ x L T) (a : Int32) : (∃ l τ', 1 ≤ l ∧ l ≤ 20 ∧ a = nI l ∧ f_X7_solutions a τ = some (nI (SR x.w x.h x.cnt x.mk l).2.1, τ') ∧ RF τ' x L T ∧ τ'.2 = τ.2) ∨ ((∀ l, 1 ≤ l → l ≤ 20 → a ≠ nI l) ∧ f_X7_solutions a τ = some (-2, τ)) := by
  unfold f_X7_solutions
  rcases m_in (a := a) (lo := 1) (M := 20) (by decide) (by decide) with ⟨l, h1, h2, rfl, hi⟩ | ⟨hn, hi⟩
  · obtain ⟨τ1, e1, s1, k1⟩ := m_searches q.mg (l := l) (by omega)
    rw [hi]
    simp only [ob]
    rw [if_neg (by decide), e1]
    simp only [ob]
    exact Or.inl ⟨l, τ1, h1, h2, rfl, by rw [k1.2.1], q.fr s1, s1.2.2⟩
  · rw [hi]
    exact Or.inr ⟨hn, rfl⟩
theorem sr_x {w h : Nat} {cnt : Nat → Int32} {l : Nat} : ∀ (n : Nat) (S : List (Nat → Nat)) (k f : Nat) (g : Nat → Nat), (sr w h cnt l n S k f g).2.2.1 ≤ 1
  | 0, _, _, _, _ => Nat.zero_le 1
  | _ + 1, [], _, _, _ => Nat.zero_le 1
  | n + 1, a :: S, k, f, g => by
    unfold sr
    split
    · exact Nat.zero_le 1
    · split
      · exact Nat.le_refl 1
      · split
        · exact sr_x n _ _ _ _
        · exact sr_x n _ _ _ _
noncomputable def nodV (x : Sn) (l : Nat) : Int32 := if (SR x.w x.h x.cnt x.mk l).2.2.1 = 0 then nI (SR x.w x.h x.cnt x.mk l).1 else -200
theorem m_nodes {τ : vSt} {x : Sn} {L : List Sn} {T : List Int32} (q : RF τ x L T) (a : Int32) : (∃ l τ', 1 ≤ l ∧ l ≤ 20 ∧ a = nI l ∧ f_X7_nodes a τ = some (nodV x l, τ') ∧ RF τ' x L T ∧ τ'.2 = τ.2) ∨ ((∀ l, 1 ≤ l → l ≤ 20 → a ≠ nI l) ∧ f_X7_nodes a τ = some (-2, τ)) := by
  unfold f_X7_nodes
  rcases m_in (a := a) (lo := 1) (M := 20) (by decide) (by decide) with ⟨l, h1, h2, rfl, hi⟩ | ⟨hn, hi⟩
  · obtain ⟨τ1, e1, s1, k1⟩ := m_searches q.mg (l := l) (by omega)
    rw [hi]
    simp only [ob]
    rw [if_neg (by decide), e1]
    simp only [ob]
    refine Or.inl ⟨l, τ1, h1, h2, rfl, ?_, q.fr s1, s1.2.2⟩
    have hx : (SR x.w x.h x.cnt x.mk l).2.2.1 ≤ 1 := sr_x 201 _ _ _ _
    unfold nodV
    rw [k1.2.2.1, k1.1]
    by_cases c : (SR x.w x.h x.cnt x.mk l).2.2.1 = 0
    · rw [if_pos (by rw [c]), if_pos c]
    · rw [if_neg (by rw [nI_eq (by omega) (by decide)]; exact c), if_neg c]
  · rw [hi]
    exact Or.inr ⟨hn, rfl⟩
theorem sr_f {w h : Nat} {cnt : Nat → Int32} {l : Nat} : ∀ (n : Nat) (S : List (Nat → Nat)) (k f : Nat) (g : Nat → Nat), (sr w h cnt l n S k f g).2.1 ≤ f + n
  | 0, _, _, _, _ => Nat.le_refl _
  | _ + 1, [], _, _, _ => Nat.le_add_right _ _
  | n + 1, a :: S, k, f, g => by
    unfold sr
    split
    · exact Nat.le_add_right _ _
    · split
      · exact Nat.le_add_right _ _
      · split
        · have h1 := sr_f (w := w) (h := h) (cnt := cnt) (l := l) n S (k + 1) (f + ndS w h cnt (clo w h cnt 41 a)) (if f = 0 ∧ ndS w h cnt (clo w h cnt 41 a) = 1 then clo w h cnt 41 a else g)
          have h2 := ndS_1 w h cnt (clo w h cnt 41 a)
          omega
        · have h1 := sr_f (w := w) (h := h) (cnt := cnt) (l := l) n (um (clo w h cnt 41 a) (ndV w h cnt (clo w h cnt 41 a)) 1 :: um (clo w h cnt 41 a) (ndV w h cnt (clo w h cnt 41 a)) 2 :: S) (k + 1) f g
          omega
noncomputable def solV (x : Sn) (e : Nat) : Int32 := if (SR x.w x.h x.cnt x.mk 1).2.1 = 0 then -1 else nI (if (SR x.w x.h x.cnt x.mk 1).2.2.2 e = 1 then 1 else 0)
theorem m_solved {τ : vSt} {x : Sn} {L : List Sn} {T : List Int32} (q : RF τ x L T) (a : Int32) : (∃ e τ', e < gE x.w x.h ∧ a = nI e ∧ f_X7_solved a τ = some (solV x e, τ') ∧ RF τ' x L T) ∨ ((∀ e, e < gE x.w x.h → a ≠ nI e) ∧ f_X7_solved a τ = some (-2, τ)) := by
  have h40 := gE_40 q.2.1.1
  have hp := gE_pos q.2.1.1
  unfold f_X7_solved
  rw [m_edges q.mg.1]
  simp only [ob]
  rcases m_inN (a := a) hp.1 (by omega) with ⟨e, he, rfl, hi⟩ | ⟨hn, hi⟩
  · obtain ⟨τ1, e1, s1, k1⟩ := m_searches q.mg (l := 1) (by omega)
    have e1' : f_X7_searches (nI 1) τ = some τ1 := e1
    rw [hi]
    simp only [ob]
    rw [if_neg (by decide), e1']
    simp only [ob]
    refine Or.inl ⟨e, τ1, he, rfl, ?_, q.fr s1⟩
    have hf : (SR x.w x.h x.cnt x.mk 1).2.1 ≤ 0 + 201 := sr_f 201 _ _ _ _
    unfold solV
    rw [k1.2.1]
    by_cases c : (SR x.w x.h x.cnt x.mk 1).2.1 = 0
    · rw [if_pos (by rw [c]), if_pos c]
    · rw [if_neg (by rw [nI_eq (by omega) (by decide)]; exact c), if_neg c, if_pos (g40 (by omega)).2, (g40 (by omega)).1, k1.2.2.2 c e (by omega)]
  · rw [hi]
    exact Or.inr ⟨hn, rfl⟩
