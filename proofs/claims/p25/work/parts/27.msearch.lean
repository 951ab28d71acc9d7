/-! THE REFERENCE'S SEARCH -/
theorem m_puts (s : Nat) (hs : s < 48) (τ : vSt) : ∃ τ', f_X7_puts (nI s) τ = some τ' ∧ CP 1 18 9 (40 * s) 0 40 τ τ' := by
  unfold f_X7_puts
  obtain ⟨τ', e, c⟩ := copy_gen (q := 1) (b := 18) (q' := 9) (b' := 40 * s) (N := 40) (f_X7_puts_2 (nI s)) (by
    intro n i σ hi
    rw [f_X7_puts_2.eq_2, if_neg (by rw [nI_leI (by decide) (by omega)]; omega), if_pos (g18 hi).2, nI_mul, nI_add (40 * s) i, if_pos (ig (by omega) (by omega)), nI_clamp (by omega), (g18 hi).1, nI_1 i]) (by
    intro n σ; rw [f_X7_puts_2.eq_2, if_pos (by decide)]) (Or.inl (by decide)) 600 0 τ (by decide) (by decide)
  rw [e]
  exact ⟨τ', rfl, c⟩
theorem m_takes (s : Nat) (hs : s < 48) (τ : vSt) : ∃ τ', f_X7_takes (nI s) τ = some τ' ∧ CP 9 (40 * s) 1 18 0 40 τ τ' := by
  unfold f_X7_takes
  obtain ⟨τ', e, c⟩ := copy_gen (q := 9) (b := 40 * s) (q' := 1) (b' := 18) (N := 40) (f_X7_takes_2 (nI s)) (by
    intro n i σ hi
    rw [f_X7_takes_2.eq_2, if_neg (by rw [nI_leI (by decide) (by omega)]; omega), nI_mul, nI_add (40 * s) i, if_pos (ig (by omega) (by omega)), if_pos (g18 hi).2, nI_clamp (by omega), (g18 hi).1, nI_1 i]) (by
    intro n σ; rw [f_X7_takes_2.eq_2, if_pos (by decide)]) (Or.inl (by decide)) 600 0 τ (by decide) (by decide)
  rw [e]
  exact ⟨τ', rfl, c⟩
theorem opn_clo {w h : Nat} {cnt : Nat → Int32} (hd : dim w h) : ∀ (n : Nat) (f : Nat → Nat), opn w h (clo w h cnt n f) ≤ opn w h f
  | 0, f => Nat.le_refl _
  | n + 1, f => by
    cases q : dP w h cnt f 6 with
    | none => rw [clo_n q]; exact Nat.le_refl _
    | some x =>
      obtain ⟨r, e, p⟩ := x
      obtain ⟨_, he, h0⟩ := dP_ok hd (by decide) q
      rw [clo_y q]
      exact Nat.le_trans (opn_clo hd n _) (Nat.le_of_lt (opn_um he h0 (bec_3 r).2))
def SK (w h : Nat) (τ : vSt) : List (Nat → Nat) → Prop
  | [] => True
  | a :: S => (∀ j, j < 40 → gI τ 9 (40 * S.length + j) = nI (a j)) ∧ (∀ e, a e < 3) ∧ opn w h a + S.length ≤ 40 ∧ SK w h τ S
theorem SK_same {w h : Nat} {τ τ' : vSt} : ∀ {S : List (Nat → Nat)}, SK w h τ S → (∀ j, j < 40 * S.length → gI τ' 9 j = gI τ 9 j) → SK w h τ' S
  | [], _, _ => trivial
  | a :: S, hk, he => by
    rw [List.length_cons] at he
    exact ⟨fun j hj => by rw [he _ (by omega)]; exact hk.1 j hj, hk.2.1, hk.2.2.1, SK_same hk.2.2.2 (fun j hj => he j (by omega))⟩
noncomputable def sr (w h : Nat) (cnt : Nat → Int32) (l : Nat) : Nat → List (Nat → Nat) → Nat → Nat → (Nat → Nat) → Nat × Nat × Nat × (Nat → Nat)
  | 0, _, k, f, g => (k, f, 0, g)
  | _ + 1, [], k, f, g => (k, f, 0, g)
  | n + 1, a :: S, k, f, g => if l ≤ f then (k, f, 0, g) else if k = 200 then (k, f, 1, g) else
    if ndV w h cnt (clo w h cnt 41 a) = 99 then sr w h cnt l n S (k + 1) (f + ndS w h cnt (clo w h cnt 41 a)) (if f = 0 ∧ ndS w h cnt (clo w h cnt 41 a) = 1 then clo w h cnt 41 a else g)
    else sr w h cnt l n (um (clo w h cnt 41 a) (ndV w h cnt (clo w h cnt 41 a)) 1 :: um (clo w h cnt 41 a) (ndV w h cnt (clo w h cnt 41 a)) 2 :: S) (k + 1) f g
def RS (τ : vSt) (x : Nat × Nat × Nat × (Nat → Nat)) : Prop := gI τ 0 26 = nI x.1 ∧ gI τ 0 27 = nI x.2.1 ∧ gI τ 0 28 = nI x.2.2.1 ∧ (x.2.1 ≠ 0 → ∀ j, j < 40 → gI τ 11 j = nI (if x.2.2.2 j = 1 then 1 else 0))
theorem MG.of {τ τ' : vSt} {w h : Nat} {cnt : Nat → Int32} {mk a : Nat → Nat} (hg : MG τ w h cnt mk) (h1 : ∀ j, j < 18 → gI τ' 1 j = gI τ 1 j) (h2 : ∀ j, j < 40 → gI τ' 1 (18 + j) = nI (a j)) (h3 : ∀ e, a e < 3) : MG τ' w h cnt a := by
  obtain ⟨⟨x1, x2, x3⟩, x4, x5, x6⟩ := hg
  exact ⟨⟨(h1 0 (by decide)).trans x1, (h1 1 (by decide)).trans x2, x3⟩, fun k hk => (h1 _ (by omega)).trans (x4 k hk), h2, h3⟩
theorem ndS_1 (w h : Nat) (cnt : Nat → Int32) (c : Nat → Nat) : ndS w h cnt c ≤ 1 := iv_le _
theorem ndV_lt {w h : Nat} {cnt : Nat → Int32} {c : Nat → Nat} (x : ndV w h cnt c ≠ 99) : ndV w h cnt c < gE w h ∧ c (ndV w h cnt c) = 0 ∧ ndS w h cnt c = 0 := by
  by_cases a : fitA w h cnt c ∧ ¬ hasR w h c
  · have e : ndV w h cnt c = fop w h c := if_pos a
    rw [e] at x ⊢
    have := lst_sat x
    exact ⟨this.1, this.2, iv_f (fun q => a.2 q.2)⟩
  · exact absurd (if_neg a) x
theorem m_search1 {w h : Nat} {cnt : Nat → Int32} {l : Nat} (hl : l < 100) : ∀ (n m : Nat) (S : List (Nat → Nat)) (k f : Nat) (g mk : Nat → Nat) (τ τ0 : vSt), SK w h τ S → f ≤ k → k ≤ 200 → 202 < n + k → 200 < m + k → gI τ 0 26 = nI k → gI τ 0 27 = nI f → gI τ 0 28 = nI 0 → (f ≠ 0 → ∀ j, j < 40 → gI τ 11 j = nI (if g j = 1 then 1 else 0)) → MG τ w h cnt mk → Fm WS τ0 τ → ∃ τ', f_X7_searches_51 (nI l) n (nI S.length) τ = some τ' ∧ Fm WS τ0 τ' ∧ RS τ' (sr w h cnt l m S k f g) := by
  intro n
  induction n with
  | zero => intro m S k f g mk τ τ0 _ _ h1 h2; omega
  | succ n ih =>
    intro m S k f g mk τ τ0 hk hfk hk2 hn hm v26 v27 v28 v11 hg hs
    obtain ⟨m, rfl⟩ : ∃ m', m = m' + 1 := ⟨m - 1, by omega⟩
    have hd := hg.1.2.2
    have h40 := gE_40 hd
    rw [f_X7_searches_51.eq_2]
    cases S with
    | nil =>
      rw [if_pos (by decide)]
      exact ⟨τ, rfl, hs, v26, v27, v28, v11⟩
    | cons a S =>
      obtain ⟨ka, ka3, kao, kS⟩ := hk
      rw [List.length_cons, if_neg (by rw [nI_leI (by omega) (by decide)]; omega), v27]
      by_cases c1 : l ≤ f
      · rw [if_pos ((nI_leI (by omega) (by omega)).mpr c1)]
        have : sr w h cnt l (m + 1) (a :: S) k f g = (k, f, 0, g) := if_pos c1
        rw [this]
        exact ⟨τ, rfl, hs, v26, v27, v28, v11⟩
      · rw [if_neg (by rw [nI_leI (by omega) (by omega)]; exact c1), if_pos v28, v26]
        by_cases c2 : k = 200
        · rw [if_pos (by rw [c2])]
          simp only [ob]
          rw [sI_same, if_neg (by decide)]
          obtain ⟨n, rfl⟩ : ∃ n', n = n' + 1 := ⟨n - 1, by omega⟩
          rw [f_X7_searches_51.eq_2, if_neg (by rw [nI_leI (by omega) (by decide)]; omega), sI_ne _ _ (by simp), v27, if_neg (by rw [nI_leI (by omega) (by omega)]; exact c1), sI_same, if_neg (by decide)]
          have : sr w h cnt l (m + 1) (a :: S) k f g = (k, f, 1, g) := (if_neg c1).trans (if_pos c2)
          rw [this]
          refine ⟨_, rfl, hs.wr (Or.inr (Or.inr (Or.inr (Or.inr ⟨rfl, by decide, by decide⟩)))) (by decide), ?_, ?_, sI_same _ _ _ _, ?_⟩
          · rw [sI_ne _ _ (by simp)]; exact v26
          · rw [sI_ne _ _ (by simp)]; exact v27
          · intro q j hj; rw [sI_ne _ _ (by simp)]; exact v11 q j hj
        · rw [if_neg (by rw [nI_eq (by omega) (by decide)]; exact c2)]
          simp only [ob]
          rw [sI_same, if_pos rfl, sI_ne _ _ (by simp), v26, nI_add, dI_d, dI_s]
          obtain ⟨τ2, e2, c3⟩ := m_takes S.length (by omega) (sI (sI τ 0 28 (nI 0)) 0 26 (nI (k + 1)))
          rw [e2]
          simp only [ob]
          have r1 : ∀ j, gI (sI (sI τ 0 28 (nI 0)) 0 26 (nI (k + 1))) 9 j = gI τ 9 j := fun j => by rw [sI_ne _ _ (by simp), sI_ne _ _ (by simp)]
          have hg2 : MG τ2 w h cnt a := hg.of (fun j hj => by rw [c3.2.1 1 j (by omega), sI_ne _ _ (by simp), sI_ne _ _ (by simp)]) (fun j hj => by rw [c3.1 j (Nat.zero_le _) hj, r1]; exact ka j hj) ka3
          have s2 : Fm WS τ τ2 := by
            have s1 : Fm WS τ (sI (sI τ 0 28 (nI 0)) 0 26 (nI (k + 1))) := (Fm.rf.wr (Or.inr (Or.inr (Or.inr (Or.inr ⟨rfl, by decide, by decide⟩)))) (by decide)).wr (Or.inr (Or.inr (Or.inr (Or.inr ⟨rfl, by decide, by decide⟩)))) (by decide)
            exact s1.tr ⟨fun j hj => c3.2.1 1 j (by omega), fun q j hq _ => c3.2.1 q j (fun x => hq x.1), c3.2.2⟩
          obtain ⟨τ3, e3, hg3, s3, n27, n11a, n11b⟩ := m_node hg2
          rw [e3]
          simp only [ob]
          have hop := opn_clo (cnt := cnt) hd 41 a
          have hsr : sr w h cnt l (m + 1) (a :: S) k f g = if ndV w h cnt (clo w h cnt 41 a) = 99 then sr w h cnt l m S (k + 1) (f + ndS w h cnt (clo w h cnt 41 a)) (if f = 0 ∧ ndS w h cnt (clo w h cnt 41 a) = 1 then clo w h cnt 41 a else g)
            else sr w h cnt l m (um (clo w h cnt 41 a) (ndV w h cnt (clo w h cnt 41 a)) 1 :: um (clo w h cnt 41 a) (ndV w h cnt (clo w h cnt 41 a)) 2 :: S) (k + 1) f g := (if_neg c1).trans (if_neg c2)
          rw [hsr]
          generalize clo w h cnt 41 a = c at hg3 n27 n11a n11b hop ⊢
          have hS1 := ndS_1 w h cnt c
          have s23 : Fm WS τ2 τ3 := s3.mono (fun q j x => x.elim (fun y => Or.inl (Or.inl y)) (fun y => y.elim (fun z => Or.inr (Or.inr (Or.inr (Or.inl z)))) (fun z => Or.inr (Or.inr (Or.inr (Or.inr (by omega)))))))
          have s03 := (hs.tr s2).tr s23
          have f2 : ∀ q j, q ≠ 1 → gI τ2 q j = gI (sI (sI τ 0 28 (nI 0)) 0 26 (nI (k + 1))) q j := fun q j hq => c3.2.1 q j (fun x => hq x.1)
          have w9 : ∀ j, ¬ WN 9 j := fun j x => by
            rcases x with x | x | x
            · have := WF1 x; omega
            · omega
            · omega
          have w0 : ∀ j, j = 26 ∨ j = 28 → ¬ WN 0 j := fun j hj x => by rcases x with (((x | x | x | x) | x) | x) | x | x <;> omega
          have t9 : ∀ j, gI τ3 9 j = gI τ 9 j := fun j => by rw [s3.2.1 9 j (by decide) (w9 j), f2 9 j (by decide), r1]
          have t26 : gI τ3 0 26 = nI (k + 1) := by rw [s3.2.1 0 26 (by decide) (w0 26 (Or.inl rfl)), f2 0 26 (by decide), sI_same]
          have t28 : gI τ3 0 28 = nI 0 := by rw [s3.2.1 0 28 (by decide) (w0 28 (Or.inr rfl)), f2 0 28 (by decide), sI_ne _ _ (by simp), sI_same]
          have u27 : gI τ2 0 27 = nI f := by rw [f2 0 27 (by decide), sI_ne _ _ (by simp), sI_ne _ _ (by simp)]; exact v27
          have u11 : ∀ j, gI τ2 11 j = gI τ 11 j := fun j => by rw [f2 11 j (by decide), sI_ne _ _ (by simp), sI_ne _ _ (by simp)]
          have t27 : gI τ3 0 27 = nI (f + ndS w h cnt c) := by rw [n27, u27, nI_add]
          have hf0 : nI f = nI 0 ↔ f = 0 := nI_eq (by omega) (by decide)
          have t11 : f + ndS w h cnt c ≠ 0 → ∀ j, j < 40 → gI τ3 11 j = nI (if (if f = 0 ∧ ndS w h cnt c = 1 then c else g) j = 1 then 1 else 0) := by
            intro q j hj
            by_cases a1 : f = 0 ∧ ndS w h cnt c = 1
            · rw [if_pos a1]
              exact n11b a1.2 (by rw [u27]; exact hf0.mpr a1.1) j hj
            · rw [if_neg a1]
              by_cases a2 : f = 0
              · exfalso; exact a1 ⟨a2, by omega⟩
              · rw [n11a (Or.inr (by rw [u27, hf0]; exact a2)), u11]
                exact v11 a2 j hj
          by_cases c4 : ndV w h cnt c = 99
          · rw [c4, if_pos tI_99, if_pos rfl]
            exact ih m S (k + 1) _ _ c τ3 τ0 (SK_same kS (fun j _ => t9 j)) (by omega) (by omega) (by omega) (by omega) t26 t27 t28 t11 hg3 s03
          · obtain ⟨vl, v0, vS⟩ := ndV_lt c4
            rw [vS] at t27 t11
            generalize ndV w h cnt c = V at c4 vl v0 ⊢
            have hV : V < 40 := by omega
            rw [tI_n c4, if_neg (nI_nem1 (by omega)), if_neg c4, if_pos (g18 hV).2, (g18 hV).1]
            have hgA : MG (sI τ3 1 (18 + V) (nI 2)) w h cnt (um c V 2) := hg3.um (by decide)
            obtain ⟨τ4, e4, c5⟩ := m_puts S.length (by omega) (sI τ3 1 (18 + V) (nI 2))
            rw [e4]
            simp only [ob]
            have hg4 : MG τ4 w h cnt (um c V 2) := hgA.same (fun j => c5.2.1 1 j (by omega))
            have hgB : MG (sI τ4 1 (18 + V) (nI 1)) w h cnt (um (um c V 2) V 1) := hg4.um (by decide)
            have huu : um (um c V 2) V 1 = um c V 1 := by
              funext x
              by_cases hx : x = V
              · rw [hx, um_e, um_e]
              · rw [um_n hx, um_n hx, um_n hx]
            rw [huu] at hgB
            rw [if_pos (g18 hV).2, nI_add]
            obtain ⟨τ5, e5, c6⟩ := m_puts (S.length + 1) (by omega) (sI τ4 1 (18 + V) (nI 1))
            rw [e5]
            simp only [ob]
            have hg5 : MG τ5 w h cnt (um c V 1) := hgB.same (fun j => c6.2.1 1 j (by omega))
            have h4 : Fm WS τ3 τ4 := (Fm.rf.wm hV).tr ⟨fun j hj => c5.2.1 1 j (by omega), fun q j hq hw => c5.2.1 q j (fun x => hw (Or.inr (Or.inl x.1))), c5.2.2⟩
            have h5 : Fm WS τ4 τ5 := (Fm.rf.wm hV).tr ⟨fun j hj => c6.2.1 1 j (by omega), fun q j hq hw => c6.2.1 q j (fun x => hw (Or.inr (Or.inl x.1))), c6.2.2⟩
            have g5 : ∀ q j, q ≠ 9 → q ≠ 1 → gI τ5 q j = gI τ3 q j := fun q j hq h1q => by
              rw [c6.2.1 q j (fun x => hq x.1), sI_ne _ _ (Or.inl h1q), c5.2.1 q j (fun x => hq x.1), sI_ne _ _ (Or.inl h1q)]
            have o1 := opn_um (v := 1) vl v0 (by decide)
            have o2 := opn_um (v := 2) vl v0 (by decide)
            have hloop : nI S.length + 2 = nI (um c V 1 :: um c V 2 :: S).length := nI_add S.length 2
            rw [hloop]
            refine ih m (um c V 1 :: um c V 2 :: S) (k + 1) f g (um c V 1) τ5 τ0 ⟨?_, hg5.2.2.2, ?_, ?_, hg4.2.2.2, ?_, ?_⟩ (by omega) (by omega) (by omega) (by omega) ?_ ?_ ?_ ?_ hg5 ((s03.tr h4).tr h5)
            · intro j hj
              rw [List.length_cons, c6.1 j (Nat.zero_le _) hj]
              exact hgB.2.2.1 j hj
            · rw [List.length_cons]; omega
            · intro j hj
              rw [c6.2.1 9 _ (by omega), sI_ne _ _ (by simp), c5.1 j (Nat.zero_le _) hj]
              exact hgA.2.2.1 j hj
            · omega
            · refine SK_same kS (fun j hj => ?_)
              rw [c6.2.1 9 j (by omega), sI_ne _ _ (by simp), c5.2.1 9 j (by omega), sI_ne _ _ (by simp)]
              exact t9 j
            · rw [g5 0 26 (by decide) (by decide)]; exact t26
            · rw [g5 0 27 (by decide) (by decide)]; exact t27
            · rw [g5 0 28 (by decide) (by decide)]; exact t28
            · intro q j hj
              rw [g5 11 j (by decide) (by decide), n11a (Or.inl vS), u11]
              exact v11 q j hj
