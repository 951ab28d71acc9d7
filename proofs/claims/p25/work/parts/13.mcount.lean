theorem cg2 {α β γ : Type} {f : α → β → γ} {a a' : α} {b b' : β} (h1 : a = a') (h2 : b = b') : f a b = f a' b' := by rw [h1, h2]
/-! COUNTS IN THE REFERENCE -/
theorem ig {n : Nat} {M : Int} (h : (n : Int) < M) (hn : n < 2 ^ 31) : 0 ≤ (nI n).toInt ∧ (nI n).toInt < M := by
  rw [nI_toInt hn]
  omega
theorem nI_nem1 {n : Nat} (h : n < 2 ^ 31) : ¬ nI n = -1 := by
  intro e
  have := congrArg Int32.toInt e
  rw [nI_toInt h] at this
  have h2 : (-1 : Int32).toInt = -1 := by decide
  omega
theorem nI_ltn {a b : Nat} (ha : a < 2 ^ 31) (hb : b < 2 ^ 31) : nI a < nI b ↔ a < b := nI_ltI ha hb
def MG (τ : vSt) (w h : Nat) (cnt : Nat → Int32) (mk : Nat → Nat) : Prop := MD τ w h ∧ (∀ k, k < 16 → gI τ 1 (2 + k) = cnt k) ∧ (∀ e, e < 40 → gI τ 1 (18 + e) = nI (mk e)) ∧ ∀ e, mk e < 3
def nAr (w h : Nat) (mk : Nat → Nat) (c v : Nat) : Nat := (gArL w h c).countP (fun e => decide (mk e = v))
def nTo (w h : Nat) (mk : Nat → Nat) (k v : Nat) : Nat := (gToL w h k).countP (fun e => decide (mk e = v))
theorem m_markOf {τ : vSt} {w h : Nat} {cnt : Nat → Int32} {mk : Nat → Nat} (hg : MG τ w h cnt mk) {e : Nat} (he : e < 40) : f_X7_markOf (nI e) τ = some (nI (mk e)) := by
  unfold f_X7_markOf
  have h1 : nI 18 + nI e = nI (18 + e) := nI_add 18 e
  rw [h1, if_pos (ig (by omega) (by omega)), nI_clamp (by omega), hg.2.2.1 e he]
theorem m_aw_step {τ : vSt} {w h : Nat} {cnt : Nat → Int32} {mk : Nat → Nat} (hg : MG τ w h cnt mk) {c v i a n : Nat} (hc : c < gC w h) (hi : i < 4) (hv : v < 3) : f_X7_aroundWith_5 (nI c) (nI v) τ (n + 1) (nI a) (nI i) = f_X7_aroundWith_5 (nI c) (nI v) τ n (nI (a + if mk (gAr w h c i) = v then 1 else 0)) (nI (i + 1)) := by
  rw [f_X7_aroundWith_5.eq_2, if_neg (show ¬ nI 4 ≤ nI i by rw [nI_leI (by decide) (by omega)]; omega), m_around hg.1 hc hi]
  simp only [ob]
  rw [m_markOf hg (Nat.lt_of_lt_of_le (gAr_lt hg.1.2.2 hc hi) (gE_40 hg.1.2.2))]
  simp only [ob]
  have hm := hg.2.2.2 (gAr w h c i)
  by_cases hq : mk (gAr w h c i) = v
  · rw [if_pos (by rw [hq]), if_pos hq]
    exact cg2 (nI_add a 1) (nI_add i 1)
  · rw [if_neg (by rw [nI_eq (by omega) (by omega)]; exact hq), if_neg hq]
    exact cg2 (nI_add a 0) (nI_add i 1)
theorem m_aroundWith {τ : vSt} {w h : Nat} {cnt : Nat → Int32} {mk : Nat → Nat} (hg : MG τ w h cnt mk) {c v : Nat} (hc : c < gC w h) (hv : v < 3) : f_X7_aroundWith (nI c) (nI v) τ = some (nI (nAr w h mk c v)) := by
  unfold f_X7_aroundWith
  have h0 : f_X7_aroundWith_5 (nI c) (nI v) τ 600 (nI 0) (nI 0) = some (nI (nAr w h mk c v)) := by
    show f_X7_aroundWith_5 (nI c) (nI v) τ (595 + 1 + 1 + 1 + 1 + 1) (nI 0) (nI 0) = _
    rw [m_aw_step hg hc (by decide) hv, m_aw_step hg hc (by decide) hv, m_aw_step hg hc (by decide) hv, m_aw_step hg hc (by decide) hv, f_X7_aroundWith_5.eq_2, if_pos (show nI 4 ≤ nI (0 + 1 + 1 + 1 + 1) from Int32.le_refl _)]
    congr 2
    simp only [nAr, gArL, List.countP_cons, List.countP_nil, decide_eq_true_eq, Nat.zero_add, Nat.reduceAdd]
    omega
  rw [h0]
  rfl
theorem m_at_step {τ : vSt} {w h : Nat} {cnt : Nat → Int32} {mk : Nat → Nat} (hg : MG τ w h cnt mk) {k v i a n : Nat} (hk : k < gK w h) (hi : i < 4) (hv : v < 3) : f_X7_atWith_5 (nI k) (nI v) τ (n + 1) (nI a) (nI i) = f_X7_atWith_5 (nI k) (nI v) τ n (nI (a + if gTo w h k i < 99 ∧ mk (gTo w h k i) = v then 1 else 0)) (nI (i + 1)) := by
  rw [f_X7_atWith_5.eq_2, if_neg (show ¬ nI 4 ≤ nI i by rw [nI_leI (by decide) (by omega)]; omega), m_toward hg.1 hk hi]
  simp only [ob]
  rcases gTo_or hg.1.2.2 hk hi with h1 | h1
  · have h40 := gE_40 hg.1.2.2
    have ht : tI (gTo w h k i) = nI (gTo w h k i) := if_neg (by omega)
    rw [ht, if_neg (nI_nem1 (by omega)), m_markOf hg (by omega)]
    simp only [ob]
    have hm := hg.2.2.2 (gTo w h k i)
    by_cases hq : mk (gTo w h k i) = v
    · rw [if_pos (by rw [hq]), if_pos ⟨by omega, hq⟩]
      exact cg2 (nI_add a 1) (nI_add i 1)
    · rw [if_neg (by rw [nI_eq (by omega) (by omega)]; exact hq), if_neg (fun q => hq q.2)]
      exact cg2 (nI_add a 0) (nI_add i 1)
  · have ht : tI (gTo w h k i) = -1 := if_pos h1
    rw [ht, if_pos rfl, if_neg (by omega)]
    exact cg2 (nI_add a 0) (nI_add i 1)
theorem m_atWith {τ : vSt} {w h : Nat} {cnt : Nat → Int32} {mk : Nat → Nat} (hg : MG τ w h cnt mk) {k v : Nat} (hk : k < gK w h) (hv : v < 3) : f_X7_atWith (nI k) (nI v) τ = some (nI (nTo w h mk k v)) := by
  unfold f_X7_atWith
  have h0 : f_X7_atWith_5 (nI k) (nI v) τ 600 (nI 0) (nI 0) = some (nI (nTo w h mk k v)) := by
    show f_X7_atWith_5 (nI k) (nI v) τ (595 + 1 + 1 + 1 + 1 + 1) (nI 0) (nI 0) = _
    rw [m_at_step hg hk (by decide) hv, m_at_step hg hk (by decide) hv, m_at_step hg hk (by decide) hv, m_at_step hg hk (by decide) hv, f_X7_atWith_5.eq_2, if_pos (show nI 4 ≤ nI (0 + 1 + 1 + 1 + 1) from Int32.le_refl _)]
    congr 2
    unfold nTo gToL
    rw [List.countP_filter]
    simp only [List.countP_cons, List.countP_nil, Bool.and_eq_true, decide_eq_true_eq]
    simp only [and_comm, Nat.zero_add, Nat.reduceAdd]
    omega
  rw [h0]
  rfl
