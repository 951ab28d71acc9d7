/-! counting by a property; truth as a number -/
noncomputable def cnP (N : Nat) (P : Nat → Prop) : Nat := (List.range N).countP (fun e => @decide (P e) (Classical.propDecidable _))
noncomputable def iv (P : Prop) : Nat := @ite _ P (Classical.propDecidable P) 1 0
theorem iv_t {P : Prop} (h : P) : iv P = 1 := by unfold iv; rw [if_pos h]
theorem iv_f {P : Prop} (h : ¬ P) : iv P = 0 := by unfold iv; rw [if_neg h]
theorem iv_le (P : Prop) : iv P ≤ 1 := by
  by_cases h : P
  · rw [iv_t h]; exact Nat.le_refl _
  · rw [iv_f h]; exact Nat.zero_le _
theorem iv_c {P Q : Prop} (h : P ↔ Q) : iv P = iv Q := by
  by_cases hp : P
  · rw [iv_t hp, iv_t (h.mp hp)]
  · rw [iv_f hp, iv_f (fun q => hp (h.mpr q))]
theorem cnP_0 (P : Nat → Prop) : cnP 0 P = 0 := rfl
theorem cnP_s (n : Nat) (P : Nat → Prop) : cnP (n + 1) P = cnP n P + iv (P n) := by
  unfold cnP
  rw [List.range_succ, List.countP_append, List.countP_cons, List.countP_nil]
  by_cases h : P n
  · rw [iv_t h, if_pos (by simp [h])]
  · rw [iv_f h, if_neg (by simp [h])]
theorem cnP_le (n : Nat) (P : Nat → Prop) : cnP n P ≤ n := by
  induction n with
  | zero => exact Nat.le_refl _
  | succ n ih => rw [cnP_s]; have := iv_le (P n); omega
theorem cnP_c {n : Nat} {P Q : Nat → Prop} (h : ∀ e, e < n → (P e ↔ Q e)) : cnP n P = cnP n Q := by
  induction n with
  | zero => rfl
  | succ n ih => rw [cnP_s, cnP_s, ih (fun e he => h e (by omega)), iv_c (h n (by omega))]
theorem cnP_mono {n : Nat} {P Q : Nat → Prop} (h : ∀ e, e < n → P e → Q e) : cnP n P ≤ cnP n Q := by
  induction n with
  | zero => exact Nat.le_refl _
  | succ n ih =>
    rw [cnP_s, cnP_s]
    have h1 := ih (fun e he => h e (by omega))
    by_cases hp : P n
    · rw [iv_t hp, iv_t (h n (by omega) hp)]; omega
    · rw [iv_f hp]; omega
theorem cnP_eq {n : Nat} {P Q : Nat → Prop} (h : ∀ e, e < n → P e → Q e) : cnP n P = cnP n Q ↔ ∀ e, e < n → Q e → P e := by
  refine ⟨?_, fun g => cnP_c (fun e he => ⟨h e he, g e he⟩)⟩
  induction n with
  | zero => intro _ e he; exact absurd he (Nat.not_lt_zero e)
  | succ n ih =>
    intro hc e he hq
    have h1 := cnP_mono (n := n) (P := P) (Q := Q) (fun e he => h e (by omega))
    rw [cnP_s, cnP_s] at hc
    have hn := h n (by omega)
    by_cases hp : P n
    · rw [iv_t hp, iv_t (hn hp)] at hc
      by_cases en : e = n
      · subst en; exact hp
      · exact ih (fun e he => h e (by omega)) (by omega) e (by omega) hq
    · rw [iv_f hp] at hc
      by_cases hqn : Q n
      · rw [iv_t hqn] at hc; omega
      · rw [iv_f hqn] at hc
        by_cases en : e = n
        · subst en; exact absurd hq hqn
        · exact ih (fun e he => h e (by omega)) (by omega) e (by omega) hq
theorem cnP_pos {n : Nat} {P : Nat → Prop} : 0 < cnP n P ↔ ∃ e, e < n ∧ P e := by
  induction n with
  | zero => rw [cnP_0]; simp
  | succ n ih =>
    rw [cnP_s]
    by_cases hp : P n
    · rw [iv_t hp]
      exact ⟨fun _ => ⟨n, by omega, hp⟩, fun _ => by omega⟩
    · rw [iv_f hp, Nat.add_zero, ih]
      refine ⟨fun ⟨e, h1, h2⟩ => ⟨e, by omega, h2⟩, fun ⟨e, h1, h2⟩ => ⟨e, ?_, h2⟩⟩
      by_cases en : e = n
      · subst en; exact absurd h2 hp
      · omega
theorem nI_min {a b : Nat} (ha : a < 2 ^ 31) (hb : b < 2 ^ 31) : (if nI a ≤ nI b then some (nI a) else some (nI b) : Option Int32) = some (nI (min a b)) := by
  by_cases h : a ≤ b
  · rw [if_pos ((nI_leI ha hb).mpr h), Nat.min_eq_left h]
  · rw [if_neg (by rw [nI_leI ha hb]; exact h), Nat.min_eq_right (by omega)]
theorem nI_max {a b : Nat} (ha : a < 2 ^ 31) (hb : b < 2 ^ 31) : (if nI a ≤ nI b then some (nI b) else some (nI a) : Option Int32) = some (nI (max a b)) := by
  by_cases h : a ≤ b
  · rw [if_pos ((nI_leI ha hb).mpr h), Nat.max_eq_right h]
  · rw [if_neg (by rw [nI_leI ha hb]; exact h), Nat.max_eq_left (by omega)]
theorem m_joins2 {w h : Nat} {cnt : Nat → Int32} {mk : Nat → Nat} : ∀ (n i : Nat) (τ τ0 : vSt) (U : Nat → Nat), MG τ0 w h cnt mk → i ≤ gE w h → gE w h < i + n → Fr WJ τ0 τ → RU τ (gK w h) U → UF w h mk i U → gI τ 0 8 = nI (cnP i (fun e => mk e = 1)) → (∀ k, k < gK w h → gI τ 5 k = nI 0 ∧ gI τ 6 k = nI 0) → ∃ τ' U', f_X7_joins_51 (nI (gE w h)) n (nI i) τ = some τ' ∧ Fr WJ τ0 τ' ∧ RU τ' (gK w h) U' ∧ UF w h mk (gE w h) U' ∧ gI τ' 0 8 = nI (cnP (gE w h) (fun e => mk e = 1)) ∧ (∀ k, k < gK w h → gI τ' 5 k = nI 0 ∧ gI τ' 6 k = nI 0) := by
  intro n
  induction n with
  | zero => intro i τ τ0 U hg h1 h2; omega
  | succ n ih =>
    intro i τ τ0 U hg0 h1 h2 hs hr hu h8 h56
    have hd := hg0.1.2.2
    have hg := hg0.same hs.1
    have h40 := gE_40 hd
    have h25 := gK_25 hd
    rw [f_X7_joins_51.eq_2]
    by_cases hi : gE w h ≤ i
    · rw [if_pos ((nI_leI (by omega) (by omega)).mpr hi)]
      have : i = gE w h := by omega
      subst this
      exact ⟨τ, U, rfl, hs, hr, hu, h8, h56⟩
    · have hiE : i < gE w h := by omega
      rw [if_neg (by rw [nI_leI (by omega) (by omega)]; exact hi), m_markOf hg (by omega)]
      simp only [ob]
      have hm3 := hg.2.2.2 i
      by_cases hm : mk i = 1
      · rw [if_pos (by rw [hm])]
        have hp := gEn_lt hd hiE (s := 0) (by decide)
        have hq := gEn_lt hd hiE (s := 1) (by decide)
        rw [m_end hg.1 hiE (s := 0) (by decide)]
        simp only [ob]
        rw [m_top h25 hr hu.1 hp]
        simp only [ob]
        rw [m_end hg.1 hiE (s := 1) (by decide)]
        simp only [ob]
        rw [m_top h25 hr hu.1 hq]
        simp only [ob]
        have fp := top_fix hu.1 (gEn w h i 0 + 1) _ (by omega) hp
        have fq := top_fix hu.1 (gEn w h i 1 + 1) _ (by omega) hq
        rw [nI_max (by omega) (by omega), nI_min (by omega) (by omega)]
        simp only [ob]
        have hM : max (top U (gEn w h i 0)) (top U (gEn w h i 1)) < gK w h := Nat.max_lt.mpr ⟨by omega, by omega⟩
        have hyes := UF_yes hd hiE hu hm
        generalize max (top U (gEn w h i 0)) (top U (gEn w h i 1)) = M at hM hyes ⊢
        generalize min (top U (gEn w h i 0)) (top U (gEn w h i 1)) = m at hyes ⊢
        rw [if_pos (ig (by omega) (by omega)), nI_clamp (by omega), nI_1 i]
        refine ih (i + 1) _ τ0 (lnk U m M) hg0 (by omega) (by omega) ((hs.up (by simp)).up (by simp)) (fun k hk => ?_) hyes ?_ (fun k hk => ?_)
        · simp only [sI_if]
          unfold lnk
          by_cases e : k = M
          · simp [e]
          · simp [e, hr k hk]
        · simp only [sI_if]
          simp only [h8]
          rw [cnP_s, iv_t hm]
          simp
          exact nI_add _ 1
        · have := h56 k hk
          simp [sI_if, this]
      · rw [if_neg (by rw [nI_eq (by omega) (by decide)]; exact hm), nI_1 i]
        refine ih (i + 1) τ τ0 U hg0 (by omega) (by omega) hs hr (UF_no hu hm) ?_ h56
        rw [cnP_s, iv_f hm, h8, Nat.add_zero]
