/-! THE REFERENCE'S SIMPLE CALLS -/
theorem nI_gel {a : Int32} {lo : Nat} (hlo : lo < 2 ^ 31) (h : ¬ a < nI lo) : ∃ j, j < 2 ^ 31 ∧ a = nI j ∧ lo ≤ j := by
  have h1 : ¬ a < 0 := by
    intro q
    apply h
    rw [Int32.lt_iff_toInt_lt] at q ⊢
    rw [nI_toInt hlo]
    have : (0 : Int32).toInt = 0 := rfl
    omega
  obtain ⟨j, hj, rfl⟩ := nI_of h1
  exact ⟨j, hj, rfl, by rw [nI_ltI hj hlo] at h; omega⟩
theorem m_in {a : Int32} {lo M : Nat} (hlo : lo ≤ M) (hM : M < 1000) : (∃ e, lo ≤ e ∧ e ≤ M ∧ a = nI e ∧ f_X7_in a (nI lo) (nI M) = some (nI 1)) ∨ ((∀ e, lo ≤ e → e ≤ M → a ≠ nI e) ∧ f_X7_in a (nI lo) (nI M) = some (nI 0)) := by
  unfold f_X7_in
  by_cases h1 : a < nI lo
  · rw [if_pos h1]
    refine Or.inr ⟨fun e he hm q => ?_, rfl⟩
    rw [q, nI_ltI (by omega) (by omega)] at h1
    omega
  · rw [if_neg h1]
    obtain ⟨j, hj, rfl, hlj⟩ := nI_gel (by omega) h1
    by_cases h2 : nI M < nI j
    · rw [if_pos h2]
      refine Or.inr ⟨fun e he hm q => ?_, rfl⟩
      rw [nI_ltI (by omega) hj] at h2
      rw [nI_eq hj (by omega)] at q
      omega
    · rw [if_neg h2]
      rw [nI_ltI (by omega) hj] at h2
      exact Or.inl ⟨j, hlj, by omega, rfl, rfl⟩
theorem m_inN {a : Int32} {N : Nat} (h0 : 0 < N) (hN : N < 1000) : (∃ e, e < N ∧ a = nI e ∧ f_X7_in a (nI 0) (nI N - nI 1) = some (nI 1)) ∨ ((∀ e, e < N → a ≠ nI e) ∧ f_X7_in a (nI 0) (nI N - nI 1) = some (nI 0)) := by
  obtain ⟨n, rfl⟩ : ∃ n, N = n + 1 := ⟨N - 1, by omega⟩
  rw [dI_0, dI_s]
  rcases m_in (a := a) (lo := 0) (M := n) (Nat.zero_le _) (by omega) with ⟨e, _, h2, h3, h4⟩ | ⟨h1, h2⟩
  · exact Or.inl ⟨e, by omega, h3, h4⟩
  · exact Or.inr ⟨fun e he => h1 e (Nat.zero_le _) (by omega), h2⟩
def cok (a : Int32) : Prop := a = -1 ∨ a = nI 0 ∨ a = nI 1 ∨ a = nI 2 ∨ a = nI 3
theorem m_in3 (a : Int32) : (cok a ∧ f_X7_in a (-1 : Int32) (nI 3) = some (nI 1)) ∨ (¬ cok a ∧ f_X7_in a (-1 : Int32) (nI 3) = some (nI 0)) := by
  by_cases h0 : a = -1
  · left; subst h0; exact ⟨Or.inl rfl, rfl⟩
  rcases m_in (a := a) (lo := 0) (M := 3) (by decide) (by decide) with ⟨e, _, h2, h3, h4⟩ | ⟨h1, h2⟩
  · left
    rcases (show e = 0 ∨ e = 1 ∨ e = 2 ∨ e = 3 by omega) with rfl | rfl | rfl | rfl <;> subst h3
    · exact ⟨Or.inr (Or.inl rfl), rfl⟩
    · exact ⟨Or.inr (Or.inr (Or.inl rfl)), rfl⟩
    · exact ⟨Or.inr (Or.inr (Or.inr (Or.inl rfl))), rfl⟩
    · exact ⟨Or.inr (Or.inr (Or.inr (Or.inr rfl))), rfl⟩
  · right
    refine ⟨fun q => ?_, ?_⟩
    · rcases q with q | q | q | q | q
      · exact h0 q
      · exact h1 0 (by decide) (by decide) q
      · exact h1 1 (by decide) (by decide) q
      · exact h1 2 (by decide) (by decide) q
      · exact h1 3 (by decide) (by decide) q
    · unfold f_X7_in
      by_cases c1 : a < -1
      · rw [if_pos c1]
      · rw [if_neg c1]
        by_cases c2 : nI 3 < a
        · rw [if_pos c2]
        · exfalso
          rw [Int32.lt_iff_toInt_lt] at c1 c2
          have e1 : (-1 : Int32).toInt = -1 := rfl
          have e2 : (nI 3).toInt = 3 := rfl
          have e3 : a.toInt ≠ -1 := fun q => h0 (Int32.toInt_inj.mp (q.trans e1.symm))
          have hlt : ¬ a < nI 0 := by
            rw [Int32.lt_iff_toInt_lt]
            have : (nI 0).toInt = 0 := rfl
            omega
          obtain ⟨j, hj, rfl, _⟩ := nI_gel (by decide) hlt
          rw [nI_toInt hj] at c2
          exact h1 j (Nat.zero_le _) (by omega) rfl
theorem gE_pos {w h : Nat} (hd : dim w h) : 0 < gE w h ∧ 0 < gC w h := by
  have hb : dimAll (fun w h => decide (0 < gE w h ∧ 0 < gC w h)) = true := by decide +kernel
  exact of_decide_eq_true (dimAll_of hb hd)
theorem m_edge {τ : vSt} {x : Sn} {L : List Sn} {T : List Int32} (q : RF τ x L T) (a : Int32) : (∃ e, e < gE x.w x.h ∧ a = nI e ∧ f_X7_edge a τ = some (nI (x.mk e))) ∨ ((∀ e, e < gE x.w x.h → a ≠ nI e) ∧ f_X7_edge a τ = some (-2)) := by
  have h40 := gE_40 q.2.1.1
  have hp := gE_pos q.2.1.1
  unfold f_X7_edge
  rw [m_edges q.mg.1]
  simp only [ob]
  rcases m_inN (a := a) hp.1 (by omega) with ⟨e, he, rfl, hi⟩ | ⟨hn, hi⟩
  · rw [hi]
    simp only [ob]
    rw [if_neg (by decide), m_markOf q.mg (by omega)]
    exact Or.inl ⟨e, he, rfl, rfl⟩
  · rw [hi]
    exact Or.inr ⟨hn, rfl⟩
theorem g2 {i : Nat} (hi : i < 16) : (nI 2 + nI i).toNatClampNeg = 2 + i ∧ (0 ≤ (nI 2 + nI i).toInt ∧ (nI 2 + nI i).toInt < 66) := by
  rw [nI_add]
  exact ⟨nI_clamp (by omega), ig (by omega) (by omega)⟩
theorem m_countOf {τ : vSt} {x : Sn} {L : List Sn} {T : List Int32} (q : RF τ x L T) (a : Int32) : (∃ c, c < gC x.w x.h ∧ a = nI c ∧ f_X7_countOf a τ = some (x.cnt c)) ∨ ((∀ c, c < gC x.w x.h → a ≠ nI c) ∧ f_X7_countOf a τ = some (-2)) := by
  have h16 := gC_16 q.2.1.1
  have hp := gE_pos q.2.1.1
  unfold f_X7_countOf
  rw [m_cells q.mg.1]
  simp only [ob]
  rcases m_inN (a := a) hp.2 (by omega) with ⟨e, he, rfl, hi⟩ | ⟨hn, hi⟩
  · rw [hi]
    simp only [ob]
    rw [if_neg (by decide), if_pos (g2 (by omega)).2, (g2 (by omega)).1, q.mg.2.1 e (by omega)]
    exact Or.inl ⟨e, he, rfl, rfl⟩
  · rw [hi]
    exact Or.inr ⟨hn, rfl⟩
def smk (x : Sn) (e v : Nat) : Sn := mkS x.w x.h x.cnt (um x.mk e v) x.us
def scn (x : Sn) (c : Nat) (v : Int32) : Sn := mkS x.w x.h (fun k => if k = c then v else x.cnt k) x.mk x.us
theorem okS_smk {x : Sn} (o : okS x) {e v : Nat} (he : e < gE x.w x.h) (hv : v < 3) : okS (smk x e v) := by
  refine ⟨o.1, fun k => ?_, fun k hk => ?_, o.2.2.2⟩
  · show um x.mk e v k < 3
    by_cases a : k = e
    · rw [a, um_e]; exact hv
    · rw [um_n a]; exact o.2.1 k
  · have hk' : gE x.w x.h ≤ k := hk
    show um x.mk e v k = 0
    rw [um_n (by omega)]; exact o.2.2.1 k hk'
theorem CU_smk {τ : vSt} {x : Sn} (c : CU τ x) {e v : Nat} (he : e < 40) : CU (sI τ 1 (18 + e) (nI v)) (smk x e v) := by
  intro j hj
  have hcj := c j hj
  unfold sn at hcj ⊢
  show _ = if j = 0 then nI x.w else if j = 1 then nI x.h else if j < 18 then x.cnt (j - 2) else if j < 58 then nI (um x.mk e v (j - 18)) else x.us (j - 58)
  by_cases b : j = 18 + e
  · rw [b, sI_same, if_neg (by omega), if_neg (by omega), if_neg (by omega), if_pos (by omega), show 18 + e - 18 = e by omega, um_e]
  · rw [sI_ne _ _ (Or.inr b), hcj]
    by_cases d1 : j = 0
    · rw [if_pos d1, if_pos d1]
    rw [if_neg d1, if_neg d1]
    by_cases d2 : j = 1
    · rw [if_pos d2, if_pos d2]
    rw [if_neg d2, if_neg d2]
    by_cases d3 : j < 18
    · rw [if_pos d3, if_pos d3]
    rw [if_neg d3, if_neg d3]
    by_cases d4 : j < 58
    · rw [if_pos d4, if_pos d4, um_n (by omega)]
    rw [if_neg d4, if_neg d4]
theorem CU_scn {τ : vSt} {x : Sn} (c : CU τ x) {k : Nat} {v : Int32} (hk : k < 16) : CU (sI τ 1 (2 + k) v) (scn x k v) := by
  intro j hj
  have hcj := c j hj
  unfold sn at hcj ⊢
  show _ = if j = 0 then nI x.w else if j = 1 then nI x.h else if j < 18 then (if j - 2 = k then v else x.cnt (j - 2)) else if j < 58 then nI (x.mk (j - 18)) else x.us (j - 58)
  by_cases b : j = 2 + k
  · rw [b, sI_same, if_neg (by omega), if_neg (by omega), if_pos (by omega), if_pos (by omega)]
  · rw [sI_ne _ _ (Or.inr b), hcj]
    by_cases d1 : j = 0
    · rw [if_pos d1, if_pos d1]
    rw [if_neg d1, if_neg d1]
    by_cases d2 : j = 1
    · rw [if_pos d2, if_pos d2]
    rw [if_neg d2, if_neg d2]
    by_cases d3 : j < 18
    · rw [if_pos d3, if_pos d3, if_neg (by omega)]
    rw [if_neg d3, if_neg d3]
theorem m_mark {τ : vSt} {x : Sn} {L : List Sn} {T : List Int32} (q : RF τ x L T) (a b : Int32) : (∃ e v τ', e < gE x.w x.h ∧ v < 3 ∧ a = nI e ∧ b = nI v ∧ f_X7_mark a b τ = some (nI (x.mk e), τ') ∧ RF τ' (smk x e v) (kp L x) T) ∨ (((∀ e, e < gE x.w x.h → a ≠ nI e) ∨ (∀ v, v < 3 → b ≠ nI v)) ∧ f_X7_mark a b τ = some (-2, τ)) := by
  have h40 := gE_40 q.2.1.1
  have hp := gE_pos q.2.1.1
  unfold f_X7_mark
  rw [m_edges q.mg.1]
  simp only [ob]
  rcases m_inN (a := a) hp.1 (by omega) with ⟨e, he, rfl, hi⟩ | ⟨hn, hi⟩
  · rw [hi]
    simp only [ob]
    rw [if_neg (by decide)]
    rcases m_in (a := b) (lo := 0) (M := 2) (by decide) (by decide) with ⟨v, _, hv, rfl, hi2⟩ | ⟨hn2, hi2⟩
    · rw [hi2]
      simp only [ob]
      rw [if_neg (by decide)]
      obtain ⟨τ2, e2, h2, f2⟩ := m_keeps q.1 q.2.2.1
      have q2 := q.kp h2 f2
      rw [e2]
      simp only [ob]
      rw [m_markOf q2.mg (by omega)]
      simp only [ob]
      rw [if_pos (g18 (by omega)).2, (g18 (by omega)).1]
      have k : ∀ q' j, q' ≠ 1 → gI (sI τ2 1 (18 + e) (nI v)) q' j = gI τ2 q' j := fun q' j h1 => by rw [sI_ne _ _ (Or.inl h1)]
      exact Or.inl ⟨e, v, _, he, by omega, rfl, rfl, rfl, CU_smk q2.1 (by omega), okS_smk q.2.1 he (by omega), q2.2.2.1.same (k 0 2 (by decide)) (fun j => k 2 j (by decide)), q2.2.2.2.same (k 0 4 (by decide)) (fun j => k 3 j (by decide))⟩
    · rw [hi2]
      exact Or.inr ⟨Or.inr (fun v hv => hn2 v (Nat.zero_le _) (by omega)), rfl⟩
  · rw [hi]
    exact Or.inr ⟨Or.inl hn, rfl⟩
theorem m_setCount {τ : vSt} {x : Sn} {L : List Sn} {T : List Int32} (q : RF τ x L T) (a b : Int32) : (∃ c τ', c < gC x.w x.h ∧ a = nI c ∧ cok b ∧ f_X7_setCount a b τ = some (x.cnt c, τ') ∧ RF τ' (scn x c b) (kp L x) T) ∨ (((∀ c, c < gC x.w x.h → a ≠ nI c) ∨ ¬ cok b) ∧ f_X7_setCount a b τ = some (-2, τ)) := by
  have h16 := gC_16 q.2.1.1
  have hp := gE_pos q.2.1.1
  unfold f_X7_setCount
  rw [m_cells q.mg.1]
  simp only [ob]
  rcases m_inN (a := a) hp.2 (by omega) with ⟨c, hc, rfl, hi⟩ | ⟨hn, hi⟩
  · rw [hi]
    simp only [ob]
    rw [if_neg (by decide)]
    rcases m_in3 b with ⟨hb, hi2⟩ | ⟨hn2, hi2⟩
    · rw [hi2]
      simp only [ob]
      rw [if_neg (by decide)]
      obtain ⟨τ2, e2, h2, f2⟩ := m_keeps q.1 q.2.2.1
      have q2 := q.kp h2 f2
      rw [e2]
      simp only [ob]
      rw [if_pos (g2 (by omega)).2, if_pos (g2 (by omega)).2, (g2 (by omega)).1, q2.mg.2.1 c (by omega)]
      have k : ∀ q' j, q' ≠ 1 → gI (sI τ2 1 (2 + c) b) q' j = gI τ2 q' j := fun q' j h1 => by rw [sI_ne _ _ (Or.inl h1)]
      refine Or.inl ⟨c, _, hc, rfl, hb, rfl, CU_scn q2.1 (by omega), ⟨q.2.1.1, q.2.1.2.1, q.2.1.2.2.1, fun k hk => ?_⟩, q2.2.2.1.same (k 0 2 (by decide)) (fun j => k 2 j (by decide)), q2.2.2.2.same (k 0 4 (by decide)) (fun j => k 3 j (by decide))⟩
      have hk' : gC x.w x.h ≤ k := hk
      show (if k = c then b else x.cnt k) = -1
      rw [if_neg (by omega)]
      exact q.2.1.2.2.2 k hk'
    · rw [hi2]
      exact Or.inr ⟨Or.inr hn2, rfl⟩
  · rw [hi]
    exact Or.inr ⟨Or.inl hn, rfl⟩
