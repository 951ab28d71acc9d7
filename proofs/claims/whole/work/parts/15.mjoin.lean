/-! THE REFERENCE'S joins -/
theorem sI_same (σ : vSt) (q j : Nat) (v : Int32) : gI (sI σ q j v) q j = v := by
  unfold gI sI
  simp [upd]
theorem sI_ne (σ : vSt) {q j q' j' : Nat} (v : Int32) (hne : q' ≠ q ∨ j' ≠ j) : gI (sI σ q j v) q' j' = gI σ q' j' := by
  unfold gI sI
  by_cases h : q' = q
  · subst h
    rcases hne with h | h
    · exact absurd rfl h
    · simp [upd, h]
  · simp [h]
theorem sI_if (σ : vSt) (q j q' j' : Nat) (v : Int32) : gI (sI σ q j v) q' j' = if q' = q ∧ j' = j then v else gI σ q' j' := by
  by_cases h : q' = q ∧ j' = j
  · rw [if_pos h, h.1, h.2, sI_same]
  · rw [if_neg h]
    apply sI_ne
    by_cases h2 : q' = q
    · right; intro h3; exact h ⟨h2, h3⟩
    · left; exact h2
theorem sI_row (σ : vSt) {q j q' : Nat} (v : Int32) (hne : q' ≠ q) : (sI σ q j v).1 q' = σ.1 q' := by
  unfold sI
  simp [hne]
theorem sI_L (σ : vSt) (q j : Nat) (v : Int32) : (sI σ q j v).2 = σ.2 := rfl
/-- what stays when the reference only looks -/
def MSame (τ τ' : vSt) : Prop := τ'.1 1 = τ.1 1 ∧ τ'.1 2 = τ.1 2 ∧ τ'.1 3 = τ.1 3 ∧ gI τ' 0 2 = gI τ 0 2 ∧ gI τ' 0 4 = gI τ 0 4
theorem MSame.rf {τ : vSt} : MSame τ τ := ⟨rfl, rfl, rfl, rfl, rfl⟩
theorem MSame.tr {a b c : vSt} (x : MSame a b) (y : MSame b c) : MSame a c := ⟨y.1.trans x.1, y.2.1.trans x.2.1, y.2.2.1.trans x.2.2.1, y.2.2.2.1.trans x.2.2.2.1, y.2.2.2.2.trans x.2.2.2.2⟩
theorem MSame.up {τ τ' : vSt} (x : MSame τ τ') {q j : Nat} {v : Int32} (hq : q ≠ 1 ∧ q ≠ 2 ∧ q ≠ 3 ∧ (q = 0 → j ≠ 2 ∧ j ≠ 4)) : MSame τ (sI τ' q j v) := by
  obtain ⟨h1, h2, h3, h4⟩ := hq
  refine ⟨(sI_row _ _ (Ne.symm h1)).trans x.1, (sI_row _ _ (Ne.symm h2)).trans x.2.1, (sI_row _ _ (Ne.symm h3)).trans x.2.2.1, (sI_ne _ _ ?_).trans x.2.2.2.1, (sI_ne _ _ ?_).trans x.2.2.2.2⟩
  · by_cases h : q = 0
    · right; exact Ne.symm (h4 h).1
    · left; exact Ne.symm h
  · by_cases h : q = 0
    · right; exact Ne.symm (h4 h).2
    · left; exact Ne.symm h
theorem MG.same {τ τ' : vSt} {w h : Nat} {cnt : Nat → Int32} {mk : Nat → Nat} (hg : MG τ w h cnt mk) (hs : τ'.1 1 = τ.1 1) : MG τ' w h cnt mk := by
  have e : ∀ j, gI τ' 1 j = gI τ 1 j := fun j => by unfold gI; rw [hs]
  obtain ⟨⟨h1, h2, h3⟩, h4, h5, h6⟩ := hg
  exact ⟨⟨(e 0).trans h1, (e 1).trans h2, h3⟩, fun k hk => (e _).trans (h4 k hk), fun k hk => (e _).trans (h5 k hk), h6⟩
/-- the row of tops, as numbers -/
def RU (τ : vSt) (K : Nat) (U : Nat → Nat) : Prop := ∀ k, k < K → gI τ 4 k = nI (U k)
theorem m_top {τ : vSt} {K : Nat} {U : Nat → Nat} (hK : K ≤ 25) (hr : RU τ K U) (hd : dn U K) {k : Nat} (hk : k < K) : f_X7_top (nI k) τ = some (nI (top U k)) := by
  have key : ∀ (n m k : Nat), k < n → k < m → k < K → f_X7_top_2 τ n (nI k) = some (nI (top U k)) := by
    intro n
    induction n with
    | zero => intro m k h; exact absurd h (Nat.not_lt_zero k)
    | succ n ih =>
      intro m k h1 h2 hk
      have hu := hd k hk
      rw [f_X7_top_2.eq_2, if_pos (ig (by omega) (by omega)), nI_clamp (by omega), hr k hk]
      by_cases e : U k = k
      · rw [if_pos (by rw [e]), top_self e]
      · rw [if_neg (by rw [nI_eq (by omega) (by omega)]; exact e), if_pos (ig (by omega) (by omega))]
        simp only [Option.bind_some]
        rw [ih m (U k) (by omega) (by omega) (by omega), top_step hd hk e]
  unfold f_X7_top
  rw [key 600 (k + 1) k (by omega) (by omega) hk]
  rfl
theorem m_joins1 {w h : Nat} (hd : dim w h) : ∀ (n i : Nat) (τ τ0 : vSt), i ≤ gK w h → gK w h < i + n → MSame τ0 τ → (∀ k, k < i → gI τ 4 k = nI k ∧ gI τ 5 k = nI 0 ∧ gI τ 6 k = nI 0) → ∃ τ', f_X7_joins_7 (nI (gK w h)) n (nI i) τ = some τ' ∧ MSame τ0 τ' ∧ (∀ k, k < gK w h → gI τ' 4 k = nI k ∧ gI τ' 5 k = nI 0 ∧ gI τ' 6 k = nI 0) := by
  intro n
  have h25 := gK_25 hd
  induction n with
  | zero => intro i τ τ0 h1 h2; omega
  | succ n ih =>
    intro i τ τ0 h1 h2 hs hv
    rw [f_X7_joins_7.eq_2]
    by_cases hi : gK w h ≤ i
    · rw [if_pos ((nI_leI (by omega) (by omega)).mpr hi)]
      exact ⟨τ, rfl, hs, fun k hk => hv k (by omega)⟩
    · rw [if_neg (by rw [nI_leI (by omega) (by omega)]; exact hi), if_pos (ig (by omega) (by omega)), if_pos (ig (by omega) (by omega)), if_pos (ig (by omega) (by omega)), nI_clamp (by omega), nI_1 i]
      refine ih (i + 1) _ τ0 (by omega) (by omega) (((hs.up (by simp)).up (by simp)).up (by simp)) (fun k hk => ?_)
      simp only [sI_if]
      by_cases e : k = i
      · subst e
        simp [vp_nar]
        rfl
      · have := hv k (by omega)
        simp [e, this]
