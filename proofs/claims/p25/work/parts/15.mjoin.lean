/-! THE REFERENCE'S joins -/
theorem sI_same (σ : vSt) (q j : Nat) (v : Int32) : gI (sI σ q j v) q j = v := by
  unfold gI sI
  simp [upd]
theorem sI_ne (σ : vSt) {q j q' j' : Nat} (v : Int32) (hne : q' ≠ q ∨ j' ≠ j) : gI (sI σ q j v) q' j' = gI σ q' j' := by
  unfold gI sI
  by_cases h : q' = q
  · subst h
    rcases hne with h | h
    · exact absurd rfl h
    · simp [upd, h]
  · simp [h]
theorem sI_if (σ : vSt) (q j q' j' : Nat) (v : Int32) : gI (sI σ q j v) q' j' = if q' = q ∧ j' = j then v else gI σ q' j' := by
  by_cases h : q' = q ∧ j' = j
  · rw [if_pos h, h.1, h.2, sI_same]
  · rw [if_neg h]
    apply sI_ne
    by_cases h2 : q' = q
    · right; intro h3; exact h ⟨h2, h3⟩
    · left; exact h2
theorem sI_row (σ : vSt) {q j q' : Nat} (v : Int32) (hne : q' ≠ q) : (sI σ q j v).1 q' = σ.1 q' := by
  unfold sI
  simp [hne]
theorem sI_L (σ : vSt) (q j : Nat) (v : Int32) : (sI σ q j v).2 = σ.2 := rfl
/-- what stays: everything but where W allows -/
def Fr (W : Nat → Nat → Prop) (τ τ' : vSt) : Prop := (∀ j, gI τ' 1 j = gI τ 1 j) ∧ (∀ q j, ¬ W q j → gI τ' q j = gI τ q j) ∧ τ'.2 = τ.2
theorem Fr.rf {W : Nat → Nat → Prop} {τ : vSt} : Fr W τ τ := ⟨fun _ => rfl, fun _ _ _ => rfl, rfl⟩
theorem Fr.tr {W : Nat → Nat → Prop} {a b c : vSt} (x : Fr W a b) (y : Fr W b c) : Fr W a c := ⟨fun j => (y.1 j).trans (x.1 j), fun q j hw => (y.2.1 q j hw).trans (x.2.1 q j hw), y.2.2.trans x.2.2⟩
theorem Fr.wr {W : Nat → Nat → Prop} {τ τ' : vSt} (x : Fr W τ τ') {q j : Nat} {v : Int32} (hW : W q j) (h1 : q ≠ 1) : Fr W τ (sI τ' q j v) := by
  refine ⟨fun i => ?_, fun q' j' hw => ?_, x.2.2⟩
  · rw [sI_ne _ _ (Or.inl (Ne.symm h1))]; exact x.1 i
  · rw [sI_ne, x.2.1 q' j' hw]
    apply Classical.byContradiction
    intro hn
    have e1 : q' = q := Classical.byContradiction (fun e => hn (Or.inl e))
    have e2 : j' = j := Classical.byContradiction (fun e => hn (Or.inr e))
    rw [e1, e2] at hw
    exact hw hW
theorem Fr.mono {W W' : Nat → Nat → Prop} {τ τ' : vSt} (x : Fr W τ τ') (hW : ∀ q j, W q j → W' q j) : Fr W' τ τ' := ⟨x.1, fun q j hw => x.2.1 q j (fun z => hw (hW q j z)), x.2.2⟩
def WJ (q j : Nat) : Prop := q = 4 ∨ q = 5 ∨ q = 6 ∨ (q = 0 ∧ j = 8)
def WL (q j : Nat) : Prop := WJ q j ∨ (q = 0 ∧ 9 ≤ j ∧ j ≤ 12)
def WF (q j : Nat) : Prop := WL q j ∨ (q = 0 ∧ 13 ≤ j ∧ j ≤ 16)
theorem Fr.up {τ τ' : vSt} (x : Fr WJ τ τ') {q j : Nat} {v : Int32} (hq : q = 4 ∨ q = 5 ∨ q = 6 ∨ (q = 0 ∧ j = 8)) : Fr WJ τ (sI τ' q j v) := x.wr hq (by omega)
theorem Fr.upL {τ τ' : vSt} (x : Fr WL τ τ') {j : Nat} {v : Int32} (hj : 9 ≤ j ∧ j ≤ 12) : Fr WL τ (sI τ' 0 j v) := x.wr (Or.inr ⟨rfl, hj⟩) (by decide)
theorem Fr.upF {τ τ' : vSt} (x : Fr WF τ τ') {j : Nat} {v : Int32} (hj : 13 ≤ j ∧ j ≤ 16) : Fr WF τ (sI τ' 0 j v) := x.wr (Or.inr ⟨rfl, hj⟩) (by decide)
theorem MG.same {τ τ' : vSt} {w h : Nat} {cnt : Nat → Int32} {mk : Nat → Nat} (hg : MG τ w h cnt mk) (e : ∀ j, gI τ' 1 j = gI τ 1 j) : MG τ' w h cnt mk := by
  obtain ⟨⟨h1, h2, h3⟩, h4, h5, h6⟩ := hg
  exact ⟨⟨(e 0).trans h1, (e 1).trans h2, h3⟩, fun k hk => (e _).trans (h4 k hk), fun k hk => (e _).trans (h5 k hk), h6⟩
/-- the row of tops, as numbers -/
def RU (τ : vSt) (K : Nat) (U : Nat → Nat) : Prop := ∀ k, k < K → gI τ 4 k = nI (U k)
theorem m_top {τ : vSt} {K : Nat} {U : Nat → Nat} (hK : K ≤ 25) (hr : RU τ K U) (hd : dn U K) {k : Nat} (hk : k < K) : f_X7_top (nI k) τ = some (nI (top U k)) := by
  have key : ∀ (n m k : Nat), k < n → k < m → k < K → f_X7_top_2 τ n (nI k) = some (nI (top U k)) := by
    intro n
    induction n with
    | zero => intro m k h; exact absurd h (Nat.not_lt_zero k)
    | succ n ih =>
      intro m k h1 h2 hk
      have hu := hd k hk
      rw [f_X7_top_2.eq_2, if_pos (ig (by omega) (by omega)), nI_clamp (by omega), hr k hk]
      by_cases e : U k = k
      · rw [if_pos (by rw [e]), top_self e]
      · rw [if_neg (by rw [nI_eq (by omega) (by omega)]; exact e), if_pos (ig (by omega) (by omega))]
        simp only [ob]
        rw [ih m (U k) (by omega) (by omega) (by omega), top_step hd hk e]
  unfold f_X7_top
  rw [key 600 (k + 1) k (by omega) (by omega) hk]
  rfl
theorem m_joins1 {w h : Nat} (hd : dim w h) : ∀ (n i : Nat) (τ τ0 : vSt), i ≤ gK w h → gK w h < i + n → Fr WJ τ0 τ → (∀ k, k < i → gI τ 4 k = nI k ∧ gI τ 5 k = nI 0 ∧ gI τ 6 k = nI 0) → ∃ τ', f_X7_joins_7 (nI (gK w h)) n (nI i) τ = some τ' ∧ Fr WJ τ0 τ' ∧ (∀ k, k < gK w h → gI τ' 4 k = nI k ∧ gI τ' 5 k = nI 0 ∧ gI τ' 6 k = nI 0) := by
  intro n
  have h25 := gK_25 hd
  induction n with
  | zero => intro i τ τ0 h1 h2; omega
  | succ n ih =>
    intro i τ τ0 h1 h2 hs hv
    rw [f_X7_joins_7.eq_2]
    by_cases hi : gK w h ≤ i
    · rw [if_pos ((nI_leI (by omega) (by omega)).mpr hi)]
      exact ⟨τ, rfl, hs, fun k hk => hv k (by omega)⟩
    · rw [if_neg (by rw [nI_leI (by omega) (by omega)]; exact hi), if_pos (ig (by omega) (by omega)), if_pos (ig (by omega) (by omega)), if_pos (ig (by omega) (by omega)), nI_clamp (by omega), nI_1 i]
      refine ih (i + 1) _ τ0 (by omega) (by omega) (((hs.up (by simp)).up (by simp)).up (by simp)) (fun k hk => ?_)
      simp only [sI_if]
      by_cases e : k = i
      · subst e
        simp [vp_nar]
        rfl
      · have := hv k (by omega)
        simp [e, this]
