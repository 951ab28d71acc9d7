/-! THE REFERENCE'S PAST -/
theorem copy_genI {q b q' b' N : Nat} (I : vSt → Prop) (F : Nat → Int32 → vSt → Option vSt) (hI : ∀ σ i v, i < N → I σ → I (sI σ q' (b' + i) v)) (hst : ∀ n i σ, I σ → i < N → F (n + 1) (nI i) σ = F n (nI (i + 1)) (sI σ q' (b' + i) (gI σ q (b + i)))) (hen : ∀ n σ, F (n + 1) (nI N) σ = some σ) (hno : q ≠ q' ∨ b' ≤ b) : ∀ (n i : Nat) (σ : vSt), I σ → i ≤ N → N < i + n → ∃ σ', F n (nI i) σ = some σ' ∧ CP q b q' b' i N σ σ' := by
  intro n
  induction n with
  | zero => intro i σ _ h1 h2; omega
  | succ n ih =>
    intro i σ hi0 h1 h2
    by_cases hi : i = N
    · rw [hi, hen]
      exact ⟨σ, rfl, fun j a c => by omega, fun _ _ _ => rfl, rfl⟩
    · rw [hst n i σ hi0 (by omega)]
      obtain ⟨σ', e, x, y, z⟩ := ih (i + 1) (sI σ q' (b' + i) (gI σ q (b + i))) (hI _ _ _ (by omega) hi0) (by omega) (by omega)
      refine ⟨σ', e, ?_, ?_, z⟩
      · intro j a c
        by_cases hj : j = i
        · rw [hj, y q' (b' + i) (fun w => by omega), sI_same]
        · rw [x j (by omega) c, sI_ne _ _ (by omega)]
      · intro q'' j hn
        rw [y q'' j (fun w => hn ⟨w.1, by omega, w.2.2⟩), sI_ne]
        rcases Nat.decEq q'' q' with a | a
        · exact Or.inl a
        · exact Or.inr (fun w => hn ⟨a, by omega, by omega⟩)
def Sn : Type := Nat × Nat × (Nat → Int32) × (Nat → Nat) × (Nat → Int32)
def mkS (w h : Nat) (cnt : Nat → Int32) (mk : Nat → Nat) (us : Nat → Int32) : Sn := (w, h, cnt, mk, us)
def Sn.w (x : Sn) : Nat := x.1
def Sn.h (x : Sn) : Nat := x.2.1
def Sn.cnt (x : Sn) : Nat → Int32 := x.2.2.1
def Sn.mk (x : Sn) : Nat → Nat := x.2.2.2.1
def Sn.us (x : Sn) : Nat → Int32 := x.2.2.2.2
def sn (x : Sn) (j : Nat) : Int32 := if j = 0 then nI x.w else if j = 1 then nI x.h else if j < 18 then x.cnt (j - 2) else if j < 58 then nI (x.mk (j - 18)) else x.us (j - 58)
def okS (x : Sn) : Prop := dim x.w x.h ∧ (∀ e, x.mk e < 3) ∧ (∀ e, gE x.w x.h ≤ e → x.mk e = 0) ∧ ∀ c, gC x.w x.h ≤ c → x.cnt c = -1
def CU (τ : vSt) (x : Sn) : Prop := ∀ j, j < 66 → gI τ 1 j = sn x j
def HS (τ : vSt) (L : List Sn) : Prop := gI τ 0 2 = nI L.length ∧ L.length ≤ 8 ∧ ∀ s x, L[s]? = some x → ∀ j, j < 66 → gI τ 2 (66 * s + j) = sn x j
theorem CU.mg {τ : vSt} {x : Sn} (c : CU τ x) (o : okS x) : MG τ x.w x.h x.cnt x.mk := by
  refine ⟨⟨c 0 (by decide), c 1 (by decide), o.1⟩, fun k hk => ?_, fun e he => ?_, o.2.1⟩
  · rw [c (2 + k) (by omega)]
    unfold sn
    rw [if_neg (by omega), if_neg (by omega), if_pos (by omega), show 2 + k - 2 = k by omega]
  · rw [c (18 + e) (by omega)]
    unfold sn
    rw [if_neg (by omega), if_neg (by omega), if_neg (by omega), if_pos (by omega), show 18 + e - 18 = e by omega]
def kp (L : List Sn) (x : Sn) : List Sn := (if L.length = 8 then L.tail else L) ++ [x]
def WP (q j : Nat) : Prop := q = 2 ∨ (q = 0 ∧ j = 2)
theorem m_keeps1 {τ : vSt} {x : Sn} {L : List Sn} (hc : CU τ x) (hp : gI τ 0 2 = nI L.length) (hl : L.length < 8) (hs : ∀ s y, L[s]? = some y → ∀ j, j < 66 → gI τ 2 (66 * s + j) = sn y j) : ∃ τ', ((f_X7_keeps_51 600 (nI 0) τ).bind fun σ17 => some (sI σ17 0 2 ((gI σ17 0 2) + (nI 1)))) = some τ' ∧ HS τ' (L ++ [x]) ∧ Fr WP τ τ' := by
  obtain ⟨τ1, e1, c1⟩ := copy_genI (q := 1) (b := 0) (q' := 2) (b' := 66 * L.length) (N := 66) (fun σ => gI σ 0 2 = nI L.length) f_X7_keeps_51 (by
    intro σ i v _ hσ; rw [sI_ne _ _ (Or.inl (by decide))]; exact hσ) (by
    intro n i σ hσ hi
    rw [f_X7_keeps_51.eq_2, if_neg (by rw [nI_leI (by decide) (by omega)]; omega), if_pos (ig (by omega) (by omega)), hσ, nI_mul, nI_add (66 * L.length) i, if_pos (ig (by omega) (by omega)), nI_clamp (by omega), nI_clamp (by omega), nI_1 i, Nat.zero_add]) (by
    intro n σ; rw [f_X7_keeps_51.eq_2, if_pos (by decide)]) (Or.inl (by decide)) 600 0 τ hp (by decide) (by decide)
  rw [e1]
  simp only [ob]
  have h2 : gI τ1 0 2 = nI L.length := by rw [c1.2.1 0 2 (by omega)]; exact hp
  refine ⟨_, rfl, ⟨?_, ?_, ?_⟩, ?_⟩
  · rw [sI_same, h2, nI_add, List.length_append]; rfl
  · rw [List.length_append]; exact hl
  · intro s y hy j hj
    rw [sI_ne _ _ (Or.inl (by decide))]
    by_cases hsl : s < L.length
    · rw [List.getElem?_append_left hsl] at hy
      rw [c1.2.1 2 (66 * s + j) (by omega)]
      exact hs s y hy j hj
    · rw [List.getElem?_append_right (by omega)] at hy
      by_cases hse : s = L.length
      · subst hse
        rw [Nat.sub_self] at hy
        have hxy : x = y := Option.some.inj hy
        rw [c1.1 j (Nat.zero_le _) hj, Nat.zero_add, hc j hj, hxy]
      · rw [List.getElem?_eq_none (by rw [List.length_singleton]; omega)] at hy
        exact absurd hy (by simp)
  · refine Fr.wr ⟨fun j => c1.2.1 1 j (by omega), fun q j hw => c1.2.1 q j (fun a => hw (Or.inl a.1)), c1.2.2⟩ (Or.inr ⟨rfl, rfl⟩) (by decide)
theorem m_keeps {τ : vSt} {x : Sn} {L : List Sn} (hc : CU τ x) (hh : HS τ L) : ∃ τ', f_X7_keeps τ = some τ' ∧ HS τ' (kp L x) ∧ Fr WP τ τ' := by
  obtain ⟨hp, hl, hs⟩ := hh
  unfold f_X7_keeps kp
  by_cases a : L.length = 8
  · obtain ⟨τ1, e1, c1⟩ := m_keepS τ
    have p1 : gI τ1 0 2 = nI 8 := by rw [c1.2.1 0 2 (by omega), hp, a]
    rw [if_pos a, if_pos (by rw [hp, a]), e1]
    simp only [ob]
    have ht : L.tail.length = 7 := by rw [List.length_tail, a]
    have f1 : Fr WP τ (sI τ1 0 2 ((gI τ1 0 2) - (nI 1))) := Fr.wr ⟨fun j => c1.2.1 1 j (by omega), fun q j hw => c1.2.1 q j (fun b => hw (Or.inl b.1)), c1.2.2⟩ (Or.inr ⟨rfl, rfl⟩) (by decide)
    obtain ⟨τ2, e2, h2, f2⟩ := m_keeps1 (τ := sI τ1 0 2 ((gI τ1 0 2) - (nI 1))) (x := x) (L := L.tail) (fun j hj => by rw [f1.1 j]; exact hc j hj) (by rw [sI_same, p1, ht]; rfl) (by omega) (by
      intro s y hy j hj
      have hs7 : s < 7 := by
        rcases Nat.lt_or_ge s 7 with b | b
        · exact b
        · rw [List.getElem?_eq_none (by omega)] at hy; exact absurd hy (by simp)
      rw [List.getElem?_tail] at hy
      rw [sI_ne _ _ (Or.inl (by decide))]
      have := c1.1 (66 * s + j) (Nat.zero_le _) (by omega)
      rw [Nat.zero_add] at this
      rw [this, show 66 + (66 * s + j) = 66 * (s + 1) + j by omega]
      exact hs (s + 1) y hy j hj)
    exact ⟨τ2, e2, h2, f1.tr f2⟩
  · rw [if_neg a, if_neg (by rw [hp, nI_eq (by omega) (by decide)]; exact a)]
    simp only [ob]
    exact m_keeps1 hc hp (by omega) hs
theorem m_undo {τ : vSt} {L : List Sn} (hh : HS τ L) : (L.length = 0 ∧ f_X7_undo τ = some (-3, τ)) ∨ (0 < L.length ∧ ∃ τ' x, L[L.length - 1]? = some x ∧ f_X7_undo τ = some (nI (L.length - 1), τ') ∧ CU τ' x ∧ HS τ' (L.take (L.length - 1)) ∧ (∀ q j, ¬ (q = 0 ∧ j = 2) → ¬ (q = 1 ∧ j < 66) → gI τ' q j = gI τ q j) ∧ τ'.2 = τ.2) := by
  obtain ⟨hp, hl, hs⟩ := hh
  unfold f_X7_undo
  by_cases a : L.length = 0
  · exact Or.inl ⟨a, by rw [if_pos (by rw [hp, a])]⟩
  · right
    refine ⟨by omega, ?_⟩
    rw [if_neg (by rw [hp, nI_eq (by omega) (by decide)]; exact a)]
    simp only [ob]
    have hsub : gI τ 0 2 - nI 1 = nI (L.length - 1) := by
      rw [hp]
      obtain ⟨k, hk⟩ : ∃ k, L.length = k + 1 := ⟨L.length - 1, by omega⟩
      rw [hk, dI_0, dI_s]; rfl
    rw [hsub]
    obtain ⟨τ1, e1, c1⟩ := copy_genI (q := 2) (b := 66 * (L.length - 1)) (q' := 1) (b' := 0) (N := 66) (fun σ => gI σ 0 2 = nI (L.length - 1)) f_X7_undo_22 (by
      intro σ i v _ hσ; rw [sI_ne _ _ (Or.inl (by decide))]; exact hσ) (by
      intro n i σ hσ hi
      rw [f_X7_undo_22.eq_2, if_neg (by rw [nI_leI (by decide) (by omega)]; omega), hσ, nI_mul, nI_add (66 * (L.length - 1)) i, if_pos (ig (by omega) (by omega)), if_pos (ig (by omega) (by omega)), nI_clamp (by omega), nI_clamp (by omega), nI_1 i, Nat.zero_add]) (by
      intro n σ; rw [f_X7_undo_22.eq_2, if_pos (by decide)]) (Or.inl (by decide)) 600 0 (sI τ 0 2 (nI (L.length - 1))) (sI_same _ _ _ _) (by decide) (by decide)
    rw [e1]
    simp only [ob]
    have g2 : gI τ1 0 2 = nI (L.length - 1) := by rw [c1.2.1 0 2 (by omega), sI_same]
    obtain ⟨x, hx⟩ : ∃ x, L[L.length - 1]? = some x := ⟨_, List.getElem?_eq_getElem (by omega)⟩
    refine ⟨τ1, x, hx, by rw [g2], ?_, ⟨?_, ?_, ?_⟩, ?_, c1.2.2⟩
    · intro j hj
      have := c1.1 j (Nat.zero_le _) hj
      rw [Nat.zero_add] at this
      rw [this, sI_ne _ _ (Or.inl (by decide))]
      exact hs _ x hx j hj
    · rw [g2, List.length_take, Nat.min_eq_left (Nat.sub_le _ _)]
    · rw [List.length_take]; omega
    · intro s y hy j hj
      have hsl : s < L.length - 1 := by
        rcases Nat.lt_or_ge s (L.length - 1) with b | b
        · exact b
        · rw [List.getElem?_eq_none (by rw [List.length_take]; omega)] at hy; exact absurd hy (by simp)
      rw [List.getElem?_take_of_lt hsl] at hy
      rw [c1.2.1 2 _ (by omega), sI_ne _ _ (Or.inl (by decide))]
      exact hs s y hy j hj
    · intro q j hn1 hn2
      rw [c1.2.1 q j (by omega), sI_ne]
      omega
