/-! THE REFERENCE'S COUNTS, WIPE, UNDO, WAY -/
theorem m_marked1 {τ : vSt} {w h : Nat} {cnt : Nat → Int32} {mk : Nat → Nat} (hg : MG τ w h cnt mk) {v : Nat} (hv : v < 3) : ∀ (n i : Nat), i ≤ gE w h → gE w h < i + n → f_X7_marked_4 (nI v) τ n (nI (cnP i (fun e => mk e = v))) (nI i) = some (nI (cnP (gE w h) (fun e => mk e = v))) := by
  have h40 := gE_40 hg.1.2.2
  intro n
  induction n with
  | zero => intro i h1 h2; omega
  | succ n ih =>
    intro i h1 h2
    rw [f_X7_marked_4.eq_2, m_edges hg.1]
    simp only [ob]
    by_cases hi : gE w h ≤ i
    · rw [if_pos ((nI_leI (by omega) (by omega)).mpr hi), show i = gE w h by omega]
    · rw [if_neg (by rw [nI_leI (by omega) (by omega)]; exact hi), m_markOf hg (by omega)]
      simp only [ob]
      have hx : ((if nI (mk i) = nI v then some (nI 1) else some (nI 0)) : Option Int32) = some (nI (iv (mk i = v))) := by
        by_cases c : mk i = v
        · rw [if_pos (by rw [c]), iv_t c]
        · rw [if_neg (by rw [nI_eq (by have := hg.2.2.2 i; omega) (by omega)]; exact c), iv_f c]
      rw [hx]
      simp only [ob]
      rw [nI_add, nI_1 i]
      have hs := cnP_s i (fun e => mk e = v)
      rw [← hs]
      exact ih (i + 1) (by omega) (by omega)
theorem m_marked {τ : vSt} {w h : Nat} {cnt : Nat → Int32} {mk : Nat → Nat} (hg : MG τ w h cnt mk) {v : Nat} (hv : v < 3) : f_X7_marked (nI v) τ = some (nI (cnP (gE w h) (fun e => mk e = v))) := by
  have h40 := gE_40 hg.1.2.2
  unfold f_X7_marked
  have := m_marked1 hg hv 600 0 (Nat.zero_le _) (by omega)
  rw [cnP_0] at this
  rw [this]
  simp only [ob]
theorem m_counts1 {τ : vSt} {w h : Nat} {cnt : Nat → Int32} {mk : Nat → Nat} (hg : MG τ w h cnt mk) : ∀ (n i : Nat), i ≤ gC w h → gC w h < i + n → f_X7_counts_4 τ n (nI (cnP i (fun c => ¬ cnt c = -1))) (nI i) = some (nI (cnP (gC w h) (fun c => ¬ cnt c = -1))) := by
  have h16 := gC_16 hg.1.2.2
  intro n
  induction n with
  | zero => intro i h1 h2; omega
  | succ n ih =>
    intro i h1 h2
    rw [f_X7_counts_4.eq_2, m_cells hg.1]
    simp only [ob]
    by_cases hi : gC w h ≤ i
    · rw [if_pos ((nI_leI (by omega) (by omega)).mpr hi), show i = gC w h by omega]
    · rw [if_neg (by rw [nI_leI (by omega) (by omega)]; exact hi), if_pos (g2 (by omega)).2, (g2 (by omega)).1, hg.2.1 i (by omega)]
      have hx : ((if cnt i = (-1 : Int32) then some (nI 0) else some (nI 1)) : Option Int32) = some (nI (iv (¬ cnt i = -1))) := by
        by_cases c : cnt i = -1
        · rw [if_pos c, iv_f (fun z => z c)]
        · rw [if_neg c, iv_t c]
      rw [hx]
      simp only [ob]
      rw [nI_add, nI_1 i]
      have hs := cnP_s i (fun c => ¬ cnt c = -1)
      rw [← hs]
      exact ih (i + 1) (by omega) (by omega)
theorem m_counts {τ : vSt} {w h : Nat} {cnt : Nat → Int32} {mk : Nat → Nat} (hg : MG τ w h cnt mk) : f_X7_counts τ = some (nI (cnP (gC w h) (fun c => ¬ cnt c = -1))) := by
  have h16 := gC_16 hg.1.2.2
  unfold f_X7_counts
  have := m_counts1 hg 600 0 (Nat.zero_le _) (by omega)
  rw [cnP_0] at this
  rw [this]
  simp only [ob]
theorem m_gradeR {τ : vSt} {x : Sn} {L : List Sn} {T : List Int32} (q : RF τ x L T) : ∃ τ', f_X7_grade τ = some (tI (gdV x.w x.h x.cnt), τ') ∧ RF τ' x L T ∧ τ'.2 = τ.2 := by
  obtain ⟨τ', e, s⟩ := m_grade q.mg
  exact ⟨τ', e, q.fr s, s.2.2⟩
theorem m_undoR {τ : vSt} {x : Sn} {L : List Sn} {T : List Int32} (q : RF τ x L T) (ok : ∀ (s : Nat) (y : Sn), L[s]? = some y → okS y) : (L.length = 0 ∧ f_X7_undo τ = some (-3, τ)) ∨ (0 < L.length ∧ ∃ τ' y, L[L.length - 1]? = some y ∧ f_X7_undo τ = some (nI (L.length - 1), τ') ∧ RF τ' y (L.take (L.length - 1)) T) := by
  rcases m_undo q.2.2.1 with a | ⟨a, τ', y, b, c, d, e, f, g⟩
  · exact Or.inl a
  · exact Or.inr ⟨a, τ', y, b, c, d, ok _ _ b, e, q.2.2.2.same (f 0 4 (by omega) (by omega)) (fun j => f 3 j (by omega) (by omega))⟩
def wip (x : Sn) : Sn := mkS x.w x.h x.cnt z0 (fun _ => nI 0)
theorem m_wipe1 : ∀ (n i : Nat) (τ : vSt), 18 ≤ i → i ≤ 66 → 66 < i + n → ∃ τ', f_X7_wipe_18 n (nI i) τ = some τ' ∧ (∀ j, i ≤ j → j < 66 → gI τ' 1 j = nI 0) ∧ (∀ q j, ¬ (q = 1 ∧ i ≤ j ∧ j < 66) → gI τ' q j = gI τ q j) ∧ τ'.2 = τ.2 := by
  intro n
  induction n with
  | zero => intro i τ h0 h1 h2; omega
  | succ n ih =>
    intro i τ h0 h1 h2
    rw [f_X7_wipe_18.eq_2]
    by_cases hi : i = 66
    · rw [hi, if_pos (by decide)]
      exact ⟨τ, rfl, fun j a b => by omega, fun _ _ _ => rfl, rfl⟩
    · rw [if_neg (by rw [nI_leI (by decide) (by omega)]; omega), if_pos (ig (by omega) (by omega)), nI_clamp (by omega), nI_1 i]
      obtain ⟨τ', e, p1, p2, p3⟩ := ih (i + 1) (sI τ 1 i (nI 0)) (by omega) (by omega) (by omega)
      refine ⟨τ', e, ?_, ?_, p3⟩
      · intro j a b
        by_cases hj : j = i
        · rw [hj, p2 1 i (by omega), sI_same]
        · exact p1 j (by omega) b
      · intro q j ha
        rw [p2 q j (by omega), sI_ne _ _ (by omega)]
theorem CU_wip {τ τ' : vSt} {x : Sn} (c : CU τ x) (h1 : ∀ j, j < 18 → gI τ' 1 j = gI τ 1 j) (h2 : ∀ j, 18 ≤ j → j < 66 → gI τ' 1 j = nI 0) : CU τ' (wip x) := by
  intro j hj
  show _ = if j = 0 then nI x.w else if j = 1 then nI x.h else if j < 18 then x.cnt (j - 2) else if j < 58 then nI 0 else nI 0
  by_cases a : j < 18
  · rw [h1 j a, c j hj]
    unfold sn
    by_cases d1 : j = 0
    · rw [if_pos d1, if_pos d1]
    rw [if_neg d1, if_neg d1]
    by_cases d2 : j = 1
    · rw [if_pos d2, if_pos d2]
    rw [if_neg d2, if_neg d2, if_pos a, if_pos a]
  · rw [h2 j (by omega) hj, if_neg (by omega), if_neg (by omega), if_neg a]
    split <;> rfl
theorem m_wipe {τ : vSt} {x : Sn} {L : List Sn} {T : List Int32} (q : RF τ x L T) : ∃ τ', f_X7_wipe τ = some (nI (gE x.w x.h) - nI (cnP (gE x.w x.h) (fun e => x.mk e = 0)), τ') ∧ RF τ' (wip x) (kp L x) T := by
  obtain ⟨τ2, e2, h2, f2⟩ := m_keeps q.1 q.2.2.1
  have q2 := q.kp h2 f2
  have hm := m_marked q2.mg (v := 0) (by decide)
  unfold f_X7_wipe
  rw [e2]
  simp only [ob]
  rw [m_edges q2.mg.1]
  simp only [ob]
  rw [hm]
  simp only [ob]
  obtain ⟨τ3, e3, p1, p2, p3⟩ := m_wipe1 600 18 τ2 (by decide) (by decide) (by decide)
  rw [e3]
  simp only [ob]
  exact ⟨τ3, rfl, CU_wip q2.1 (fun j hj => p2 1 j (by omega)) p1, ⟨q.2.1.1, fun _ => Nat.zero_lt_succ 2, fun _ _ => rfl, q.2.1.2.2.2⟩, q2.2.2.1.same (p2 0 2 (by omega)) (fun j => p2 2 j (by omega)), q2.2.2.2.same (p2 0 4 (by omega)) (fun j => p2 3 j (by omega))⟩
