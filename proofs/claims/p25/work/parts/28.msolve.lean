/-! THE REFERENCE'S SOLUTIONS AND GRADE -/
def WT (q j : Nat) : Prop := WS q j ∨ q = 10
noncomputable def SR (w h : Nat) (cnt : Nat → Int32) (mk : Nat → Nat) (l : Nat) : Nat × Nat × Nat × (Nat → Nat) := sr w h cnt l 201 [mk] 0 0 mk
theorem WS_no10 (j : Nat) : ¬ WS 10 j := fun x => by
  rcases x with (x | x) | x | x | x | x
  · have := WF1 x; omega
  all_goals omega
theorem m_searches {τ : vSt} {w h : Nat} {cnt : Nat → Int32} {mk : Nat → Nat} (hg : MG τ w h cnt mk) {l : Nat} (hl : l < 100) : ∃ τ', f_X7_searches (nI l) τ = some τ' ∧ Fr WT τ τ' ∧ RS τ' (SR w h cnt mk l) := by
  have hd := hg.1.2.2
  obtain ⟨τ1, e1, c1⟩ := m_save10 τ
  have s1 : Fm WT τ τ1 := ⟨fun j _ => c1.2.1 1 j (by omega), fun q j _ hw => c1.2.1 q j (fun a => hw (Or.inr a.1)), c1.2.2⟩
  have hg1 : MG τ1 w h cnt mk := hg.same (fun j => c1.2.1 1 j (by omega))
  unfold f_X7_searches
  rw [e1]
  simp only [ob]
  have s2 : Fm WS τ1 (sI (sI (sI τ1 0 26 (nI 0)) 0 27 (nI 0)) 0 28 (nI 0)) := ((Fm.rf.wr (Or.inr (Or.inr (Or.inr (Or.inr ⟨rfl, by decide, by decide⟩)))) (by decide)).wr (Or.inr (Or.inr (Or.inr (Or.inr ⟨rfl, by decide, by decide⟩)))) (by decide)).wr (Or.inr (Or.inr (Or.inr (Or.inr ⟨rfl, by decide, by decide⟩)))) (by decide)
  have hg2 : MG (sI (sI (sI τ1 0 26 (nI 0)) 0 27 (nI 0)) 0 28 (nI 0)) w h cnt mk := hg1.same (fun j => by rw [sI_ne _ _ (by simp), sI_ne _ _ (by simp), sI_ne _ _ (by simp)])
  have a26 : gI (sI (sI (sI τ1 0 26 (nI 0)) 0 27 (nI 0)) 0 28 (nI 0)) 0 26 = nI 0 := by rw [sI_ne _ _ (by simp), sI_ne _ _ (by simp), sI_same]
  have a27 : gI (sI (sI (sI τ1 0 26 (nI 0)) 0 27 (nI 0)) 0 28 (nI 0)) 0 27 = nI 0 := by rw [sI_ne _ _ (by simp), sI_same]
  have a28 : gI (sI (sI (sI τ1 0 26 (nI 0)) 0 27 (nI 0)) 0 28 (nI 0)) 0 28 = nI 0 := sI_same _ _ _ _
  generalize sI (sI (sI τ1 0 26 (nI 0)) 0 27 (nI 0)) 0 28 (nI 0) = σ2 at s2 hg2 a26 a27 a28 ⊢
  obtain ⟨τ3, e3, c3⟩ := m_puts 0 (by decide) σ2
  rw [e3]
  simp only [ob]
  have s3 : Fm WS σ2 τ3 := ⟨fun j _ => c3.2.1 1 j (by omega), fun q j _ hw => c3.2.1 q j (fun x => hw (Or.inr (Or.inl x.1))), c3.2.2⟩
  have hg3 : MG τ3 w h cnt mk := hg2.same (fun j => c3.2.1 1 j (by omega))
  obtain ⟨τ4, e4, s4, r4⟩ := m_search1 (w := w) (h := h) (cnt := cnt) hl 600 201 [mk] 0 0 mk mk τ3 τ3 ⟨fun j hj => by
      show gI τ3 9 (40 * 0 + j) = _
      rw [c3.1 j (Nat.zero_le _) hj]; exact hg2.2.2.1 j hj, hg2.2.2.2, by have := opn_le hd mk; show _ + 0 ≤ 40; omega, trivial⟩ (by decide) (by decide) (by decide) (by decide) (by rw [c3.2.1 0 26 (by omega)]; exact a26) (by rw [c3.2.1 0 27 (by omega)]; exact a27) (by rw [c3.2.1 0 28 (by omega)]; exact a28) (fun q => absurd rfl q) hg3 Fm.rf
  have e4' : f_X7_searches_51 (nI l) 600 (nI 1) τ3 = some τ4 := e4
  rw [e4']
  simp only [ob]
  obtain ⟨τ5, e5, c5⟩ := m_back10 τ4
  rw [e5]
  simp only [ob]
  have s24 : Fm WS τ1 τ4 := (s2.tr s3).tr s4
  refine ⟨τ5, rfl, ?_, ?_⟩
  · refine ((s1.tr (s24.mono (fun _ _ x => Or.inl x))).tr ⟨fun j hj => c5.2.1 1 j (by omega), fun q j hq _ => c5.2.1 q j (fun a => hq a.1), c5.2.2⟩).fr (fun j hj => ?_)
    rw [c5.1 j (Nat.zero_le _) hj, s24.2.1 10 _ (by decide) (WS_no10 _), c1.1 j (Nat.zero_le _) hj]
  · obtain ⟨x1, x2, x3, x4⟩ := r4
    exact ⟨by rw [c5.2.1 0 26 (by omega)]; exact x1, by rw [c5.2.1 0 27 (by omega)]; exact x2, by rw [c5.2.1 0 28 (by omega)]; exact x3, fun q j hj => by rw [c5.2.1 11 j (by omega)]; exact x4 q j hj⟩
def gof (r : Nat) : Nat := if r < 3 then 1 else if r < 5 then 2 else if r = 5 then 3 else 4
theorem m_gradeOf {r : Nat} (hr : r < 8) : f_X7_gradeOf (nI r) = some (nI (gof r)) := by
  rcases (show r = 0 ∨ r = 1 ∨ r = 2 ∨ r = 3 ∨ r = 4 ∨ r = 5 ∨ r = 6 ∨ r = 7 by omega) with rfl | rfl | rfl | rfl | rfl | rfl | rfl | rfl <;> rfl
noncomputable def gr (w h : Nat) (cnt : Nat → Int32) : Nat → (Nat → Nat) → Nat → Nat × (Nat → Nat)
  | 0, f, a => (a, f)
  | n + 1, f, a => match dN w h cnt f 7 with
    | none => (a, f)
    | some (r, e, _) => gr w h cnt n (um f e (bec r)) (max a (gof r))
theorem gr_n {w h : Nat} {cnt : Nat → Int32} {n a : Nat} {f : Nat → Nat} (x : dN w h cnt f 7 = none) : gr w h cnt (n + 1) f a = (a, f) := by
  show (match dN w h cnt f 7 with | none => (a, f) | some (r, e, _) => gr w h cnt n (um f e (bec r)) (max a (gof r))) = _
  rw [x]
theorem gr_y {w h : Nat} {cnt : Nat → Int32} {n a : Nat} {f : Nat → Nat} {r e p : Nat} (x : dN w h cnt f 7 = some (r, e, p)) : gr w h cnt (n + 1) f a = gr w h cnt n (um f e (bec r)) (max a (gof r)) := by
  show (match dN w h cnt f 7 with | none => (a, f) | some (r, e, _) => gr w h cnt n (um f e (bec r)) (max a (gof r))) = _
  rw [x]
theorem gof_4 (r : Nat) : gof r ≤ 4 := by unfold gof; split <;> (try split) <;> (try split) <;> decide
theorem m_grade1 {w h : Nat} {cnt : Nat → Int32} : ∀ (n m : Nat) (f : Nat → Nat) (a : Nat) (τ τ0 : vSt), MG τ w h cnt f → opn w h f < n → opn w h f < m → a ≤ 4 → Fm WB τ0 τ → ∃ τ', f_X7_grade_41 n (nI a) τ = some (nI (gr w h cnt m f a).1, τ') ∧ MG τ' w h cnt (gr w h cnt m f a).2 ∧ Fm WB τ0 τ' ∧ (gr w h cnt m f a).1 ≤ 4 := by
  intro n
  induction n with
  | zero => intro m f a τ τ0 hg h1; omega
  | succ n ih =>
    intro m f a τ τ0 hg h1 h2 ha hs
    obtain ⟨m, rfl⟩ : ∃ k, m = k + 1 := ⟨m - 1, by omega⟩
    have hd := hg.1.2.2
    have h40 := gE_40 hd
    rw [f_X7_grade_41.eq_2]
    obtain ⟨τ1, s, ⟨x, y⟩ | ⟨r, e, p, x, y, z⟩⟩ := m_findsNext hg (l := 7) (by decide)
    · rw [y]
      simp only [ob]
      rw [if_pos trivial, gr_n x]
      exact ⟨τ1, rfl, hg.same s.1, hs.tr (s.fm (fun _ _ q => q)), ha⟩
    · obtain ⟨hr, he, h0⟩ := dN_ok hd x
      rw [y]
      simp only [ob]
      rw [if_neg (by decide), m_makes z (by omega)]
      simp only [ob]
      rw [sI_ne _ _ (by simp), z.1, m_gradeOf hr]
      simp only [ob]
      have ho := opn_um he h0 (bec_3 r).2
      have h4 := gof_4 r
      have hgo := ih m (um f e (bec r)) (max a (gof r)) (sI τ1 1 (18 + e) (nI (bec r))) τ0 ((hg.same s.1).um (bec_3 r).1) (by omega) (by omega) (by omega) ((hs.tr (s.fm (fun _ _ q => q))).wm (by omega))
      rw [gr_y x]
      by_cases c : gof r ≤ a
      · rw [if_pos ((nI_leI (by omega) (by omega)).mpr c)]
        rw [show max a (gof r) = a by omega] at hgo ⊢
        exact hgo
      · rw [if_neg (by rw [nI_leI (by omega) (by omega)]; exact c)]
        rw [show max a (gof r) = gof r by omega] at hgo ⊢
        exact hgo
theorem m_grade0 : ∀ (n i : Nat) (τ : vSt), i ≤ 40 → 40 < i + n → ∃ τ', f_X7_grade_2 n (nI i) τ = some τ' ∧ (∀ j, i ≤ j → j < 40 → gI τ' 10 j = gI τ 1 (18 + j) ∧ gI τ' 1 (18 + j) = nI 0) ∧ (∀ q j, ¬ (q = 10 ∧ i ≤ j ∧ j < 40) → ¬ (q = 1 ∧ 18 + i ≤ j ∧ j < 58) → gI τ' q j = gI τ q j) ∧ τ'.2 = τ.2 := by
  intro n
  induction n with
  | zero => intro i τ h1 h2; omega
  | succ n ih =>
    intro i τ h1 h2
    rw [f_X7_grade_2.eq_2]
    by_cases hi : i = 40
    · rw [hi, if_pos (by decide)]
      exact ⟨τ, rfl, fun j a b => by omega, fun _ _ _ _ => rfl, rfl⟩
    · rw [if_neg (by rw [nI_leI (by decide) (by omega)]; omega), if_pos (g18 (by omega)).2, if_pos (g40 (by omega)).2, if_pos (g18 (by omega)).2, (g18 (by omega)).1, (g40 (by omega)).1, nI_1 i]
      obtain ⟨τ', e, p1, p2, p3⟩ := ih (i + 1) (sI (sI τ 10 i (gI τ 1 (18 + i))) 1 (18 + i) (nI 0)) (by omega) (by omega)
      refine ⟨τ', e, ?_, ?_, p3⟩
      · intro j a b
        by_cases hj : j = i
        · rw [hj, p2 10 i (by omega) (by omega), p2 1 (18 + i) (by omega) (by omega), sI_ne _ _ (by simp), sI_same, sI_same]
          exact ⟨rfl, rfl⟩
        · rw [(p1 j (by omega) b).1, sI_ne _ _ (by omega), sI_ne _ _ (by simp)]
          exact ⟨rfl, (p1 j (by omega) b).2⟩
      · intro q j ha hb
        rw [p2 q j (by omega) (by omega), sI_ne _ _ (by omega), sI_ne _ _ (by omega)]
def z0 : Nat → Nat := fun _ => 0
noncomputable def gdV (w h : Nat) (cnt : Nat → Int32) : Nat := @ite _ (fitA w h cnt (gr w h cnt 41 z0 0).2 ∧ hasR w h (gr w h cnt 41 z0 0).2) (Classical.propDecidable _) (gr w h cnt 41 z0 0).1 99
theorem m_grade {τ : vSt} {w h : Nat} {cnt : Nat → Int32} {mk : Nat → Nat} (hg : MG τ w h cnt mk) : ∃ τ', f_X7_grade τ = some (tI (gdV w h cnt), τ') ∧ Fr WT τ τ' := by
  have hd := hg.1.2.2
  obtain ⟨τ1, e1, p1, p2, p3⟩ := m_grade0 600 0 τ (by decide) (by decide)
  have s1 : Fm WT τ τ1 := ⟨fun j _ => p2 1 j (by omega) (by omega), fun q j hq hw => p2 q j (fun a => hw (Or.inr a.1)) (fun a => hq a.1), p3⟩
  have hg1 : MG τ1 w h cnt z0 := hg.of (fun j hj => p2 1 j (by omega) (by omega)) (fun j hj => (p1 j (Nat.zero_le _) hj).2) (fun _ => Nat.zero_lt_succ 2)
  unfold f_X7_grade
  rw [e1]
  simp only [ob]
  obtain ⟨τ2, e2, hg2, s2, h4⟩ := m_grade1 600 41 z0 0 τ1 τ1 hg1 (by have := opn_le hd z0; omega) (by have := opn_le hd z0; omega) (by decide) Fm.rf
  rw [e2]
  simp only [ob]
  obtain ⟨τ3, e3, s3, k3⟩ := m_fits hg2
  rw [e3]
  simp only [ob]
  rw [k3.2.2.2]
  obtain ⟨τ4, e4, c4⟩ := m_backG τ3
  have hfr : Fr WT τ τ4 := by
    have s23 : Fm WB τ1 τ3 := s2.tr (s3.fm (fun _ _ q => Or.inl (Or.inl q)))
    refine ((s1.tr (s23.mono (fun _ _ x => Or.inl (Or.inl x)))).tr ⟨fun j hj => c4.2.1 1 j (by omega), fun q j hq _ => c4.2.1 q j (fun a => hq a.1), c4.2.2⟩).fr (fun j hj => ?_)
    rw [c4.1 j (Nat.zero_le _) hj, Nat.zero_add, s23.2.1 10 _ (by decide) (fun x => WS_no10 j (Or.inl x)), (p1 j (Nat.zero_le _) hj).1]
  have hx : ((if pI (fitA w h cnt (gr w h cnt 41 z0 0).2) = nI 0 then some (nI 0) else (if pI (hasR w h (gr w h cnt 41 z0 0).2) = nI 0 then some (nI 0) else some (nI 1))) : Option Int32) = some (pI (fitA w h cnt (gr w h cnt 41 z0 0).2 ∧ hasR w h (gr w h cnt 41 z0 0).2)) := by
    by_cases a : fitA w h cnt (gr w h cnt 41 z0 0).2
    · rw [pI_t a, if_neg (by decide)]
      by_cases b : hasR w h (gr w h cnt 41 z0 0).2
      · rw [pI_t b, if_neg (by decide), pI_t ⟨a, b⟩]
      · rw [pI_f b, if_pos rfl, pI_f (fun q => b q.2)]
    · rw [pI_f a, if_pos rfl, pI_f (fun q => a q.1)]
  rw [hx]
  simp only [ob]
  rw [e4]
  simp only [ob]
  by_cases a : fitA w h cnt (gr w h cnt 41 z0 0).2 ∧ hasR w h (gr w h cnt 41 z0 0).2
  · have hV : gdV w h cnt = (gr w h cnt 41 z0 0).1 := if_pos a
    rw [pI_t a, if_neg (by decide), hV, tI_n (by omega)]
    exact ⟨τ4, rfl, hfr⟩
  · have hV : gdV w h cnt = 99 := if_neg a
    rw [pI_f a, if_pos rfl, hV, tI_99]
    exact ⟨τ4, rfl, hfr⟩
