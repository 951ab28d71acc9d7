/-! joins: lengths and loose ends -/
noncomputable def pI (P : Prop) : Int32 := nI (iv P)
theorem pI_t {P : Prop} (h : P) : pI P = nI 1 := by unfold pI; rw [iv_t h]
theorem pI_f {P : Prop} (h : ¬ P) : pI P = nI 0 := by unfold pI; rw [iv_f h]
theorem pI_c {P Q : Prop} (h : P ↔ Q) : pI P = pI Q := by unfold pI; rw [iv_c h]
theorem pI_0 {P : Prop} : pI P = nI 0 ↔ ¬ P := by
  by_cases h : P
  · rw [pI_t h]; simp [h]; decide
  · rw [pI_f h]; simp [h]
theorem m_joins3 {w h : Nat} {cnt : Nat → Int32} {mk : Nat → Nat} {U : Nat → Nat} : ∀ (n i : Nat) (τ τ0 : vSt), MG τ0 w h cnt mk → dn U (gK w h) → i ≤ gE w h → gE w h < i + n → Fr WJ τ0 τ → RU τ (gK w h) U → gI τ 0 8 = gI τ0 0 8 → (∀ t, t < gK w h → gI τ 5 t = nI (cnP i (fun e => mk e = 1 ∧ top U (gEn w h e 0) = t)) ∧ gI τ 6 t = nI 0) → ∃ τ', f_X7_joins_140 (nI (gE w h)) n (nI i) τ = some τ' ∧ Fr WJ τ0 τ' ∧ RU τ' (gK w h) U ∧ gI τ' 0 8 = gI τ0 0 8 ∧ (∀ t, t < gK w h → gI τ' 5 t = nI (cnP (gE w h) (fun e => mk e = 1 ∧ top U (gEn w h e 0) = t)) ∧ gI τ' 6 t = nI 0) := by
  intro n
  induction n with
  | zero => intro i τ τ0 hg hdn h1 h2; omega
  | succ n ih =>
    intro i τ τ0 hg0 hdn h1 h2 hs hr h8 h56
    have hd := hg0.1.2.2
    have hg := hg0.same hs.1
    have h40 := gE_40 hd
    have h25 := gK_25 hd
    rw [f_X7_joins_140.eq_2]
    by_cases hi : gE w h ≤ i
    · rw [if_pos ((nI_leI (by omega) (by omega)).mpr hi)]
      have : i = gE w h := by omega
      subst this
      exact ⟨τ, rfl, hs, hr, h8, h56⟩
    · have hiE : i < gE w h := by omega
      rw [if_neg (by rw [nI_leI (by omega) (by omega)]; exact hi), m_markOf hg (by omega)]
      simp only [ob]
      have hm3 := hg.2.2.2 i
      by_cases hm : mk i = 1
      · rw [if_pos (by rw [hm])]
        have hp := gEn_lt hd hiE (s := 0) (by decide)
        rw [m_end hg.1 hiE (s := 0) (by decide)]
        simp only [ob]
        rw [m_top h25 hr hdn hp]
        simp only [ob]
        have fp := top_fix hdn (gEn w h i 0 + 1) _ (by omega) hp
        rw [if_pos (ig (by omega) (by omega)), if_pos (ig (by omega) (by omega)), nI_clamp (by omega), nI_1 i]
        refine ih (i + 1) _ τ0 hg0 hdn (by omega) (by omega) (hs.up (by simp)) (fun k hk => ?_) ?_ (fun t ht => ⟨?_, ?_⟩)
        · simp [sI_if, hr k hk]
        · simp [sI_if, h8]
        · simp only [sI_if]
          rw [cnP_s, (h56 _ (show top U (gEn w h i 0) < gK w h by omega)).1]
          by_cases e : t = top U (gEn w h i 0)
          · rw [if_pos ⟨trivial, e⟩, iv_t ⟨hm, e.symm⟩, ← e]
            exact nI_add _ 1
          · rw [if_neg (fun q => e q.2), iv_f (fun q => e q.2.symm), (h56 t ht).1, Nat.add_zero]
        · simp [sI_if, (h56 t ht).2]
      · rw [if_neg (by rw [nI_eq (by omega) (by decide)]; exact hm), nI_1 i]
        refine ih (i + 1) τ τ0 hg0 hdn (by omega) (by omega) hs hr h8 (fun t ht => ⟨?_, (h56 t ht).2⟩)
        rw [cnP_s, iv_f (fun q => hm q.1), (h56 t ht).1, Nat.add_zero]
def lse (w h : Nat) (mk : Nat → Nat) (k : Nat) : Prop := nTo w h mk k 1 ≠ 0 ∧ nTo w h mk k 1 ≠ 2
theorem nTo_le (w h : Nat) (mk : Nat → Nat) (k v : Nat) : nTo w h mk k v ≤ 4 := by
  unfold nTo
  refine Nat.le_trans List.countP_le_length ?_
  unfold gToL
  exact Nat.le_trans (List.length_filter_le _ _) (by simp)
theorem nAr_le (w h : Nat) (mk : Nat → Nat) (c v : Nat) : nAr w h mk c v ≤ 4 := by
  unfold nAr
  exact Nat.le_trans List.countP_le_length (by simp [gArL])
theorem m_joins4 {w h : Nat} {cnt : Nat → Int32} {mk : Nat → Nat} {U : Nat → Nat} : ∀ (n i : Nat) (τ τ0 : vSt), MG τ0 w h cnt mk → dn U (gK w h) → i ≤ gK w h → gK w h < i + n → Fr WJ τ0 τ → RU τ (gK w h) U → gI τ 0 8 = gI τ0 0 8 → (∀ t, t < gK w h → gI τ 5 t = gI τ0 5 t ∧ gI τ 6 t = pI (∃ k, k < i ∧ top U k = t ∧ lse w h mk k)) → ∃ τ', f_X7_joins_181 (nI (gK w h)) n (nI i) τ = some τ' ∧ Fr WJ τ0 τ' ∧ RU τ' (gK w h) U ∧ gI τ' 0 8 = gI τ0 0 8 ∧ (∀ t, t < gK w h → gI τ' 5 t = gI τ0 5 t ∧ gI τ' 6 t = pI (∃ k, k < gK w h ∧ top U k = t ∧ lse w h mk k)) := by
  intro n
  induction n with
  | zero => intro i τ τ0 hg hdn h1 h2; omega
  | succ n ih =>
    intro i τ τ0 hg0 hdn h1 h2 hs hr h8 h56
    have hd := hg0.1.2.2
    have hg := hg0.same hs.1
    have h25 := gK_25 hd
    rw [f_X7_joins_181.eq_2]
    by_cases hi : gK w h ≤ i
    · rw [if_pos ((nI_leI (by omega) (by omega)).mpr hi)]
      have : i = gK w h := by omega
      subst this
      exact ⟨τ, rfl, hs, hr, h8, h56⟩
    · have hiK : i < gK w h := by omega
      have fp := top_fix hdn (i + 1) _ (by omega) hiK
      have hl4 := nTo_le w h mk i 1
      rw [if_neg (by rw [nI_leI (by omega) (by omega)]; exact hi), show nI 1 = nI 1 from rfl, m_atWith hg hiK (v := 1) (by decide)]
      simp only [ob]
      rw [m_top h25 hr hdn hiK]
      simp only [ob]
      rw [if_pos (ig (by omega) (by omega)), nI_clamp (by omega), nI_1 i, (h56 _ (show top U i < gK w h by omega)).2]
      -- the three writes say the same: whether the top is loose by now
      have go : ∀ b : Int32, b = pI (∃ k, k < i + 1 ∧ top U k = top U i ∧ lse w h mk k) → ∃ τ', f_X7_joins_181 (nI (gK w h)) n (nI (i + 1)) (sI τ 6 (top U i) b) = some τ' ∧ Fr WJ τ0 τ' ∧ RU τ' (gK w h) U ∧ gI τ' 0 8 = gI τ0 0 8 ∧ (∀ t, t < gK w h → gI τ' 5 t = gI τ0 5 t ∧ gI τ' 6 t = pI (∃ k, k < gK w h ∧ top U k = t ∧ lse w h mk k)) := by
        intro b hb
        refine ih (i + 1) _ τ0 hg0 hdn (by omega) (by omega) (hs.up (by simp)) (fun k hk => ?_) ?_ (fun t ht => ⟨?_, ?_⟩)
        · simp [sI_if, hr k hk]
        · simp [sI_if, h8]
        · simp [sI_if, (h56 t ht).1]
        · simp only [sI_if]
          by_cases e : t = top U i
          · rw [if_pos ⟨trivial, e⟩, hb, e]
          · rw [if_neg (fun q => e q.2), (h56 t ht).2]
            refine pI_c ⟨fun ⟨k, a, b, c⟩ => ⟨k, by omega, b, c⟩, fun ⟨k, a, b, c⟩ => ⟨k, ?_, b, c⟩⟩
            rcases Nat.lt_or_ge k i with z | z
            · exact z
            · exact absurd (by rw [← b, show k = i by omega]) e
      by_cases ho : ∃ k, k < i ∧ top U k = top U i ∧ lse w h mk k
      · rw [if_neg (by rw [pI_0]; exact fun q => q ho), if_pos (ig (by omega) (by omega))]
        refine go _ ?_
        obtain ⟨k, a, b, c⟩ := ho
        rw [pI_t ⟨k, by omega, b, c⟩]
        rfl
      · rw [if_pos (pI_0.mpr ho)]
        have hno : ¬ lse w h mk i → ¬ ∃ k, k < i + 1 ∧ top U k = top U i ∧ lse w h mk k := by
          rintro q ⟨k, a, b, c⟩
          rcases Nat.lt_or_ge k i with z | z
          · exact ho ⟨k, z, b, c⟩
          · exact q (by rw [show i = k by omega]; exact c)
        by_cases e0 : nTo w h mk i 1 = 0
        · rw [if_pos (by rw [e0]), if_pos (ig (by omega) (by omega))]
          refine go _ ?_
          rw [pI_f (hno (fun q => q.1 e0))]
          rfl
        · rw [if_neg (by rw [nI_eq (by omega) (by decide)]; exact e0)]
          by_cases e2 : nTo w h mk i 1 = 2
          · rw [if_pos (by rw [e2]), if_pos (ig (by omega) (by omega))]
            refine go _ ?_
            rw [pI_f (hno (fun q => q.2 e2))]
            rfl
          · rw [if_neg (by rw [nI_eq (by omega) (by decide)]; exact e2), if_pos (ig (by omega) (by omega))]
            refine go _ ?_
            rw [pI_t ⟨i, by omega, rfl, e0, e2⟩]
            rfl
/-- what joins leaves -/
def JN (τ : vSt) (w h : Nat) (mk : Nat → Nat) (U : Nat → Nat) : Prop := RU τ (gK w h) U ∧ UF w h mk (gE w h) U ∧ gI τ 0 8 = nI (cnP (gE w h) (fun e => mk e = 1)) ∧ ∀ t, t < gK w h → gI τ 5 t = nI (cnP (gE w h) (fun e => mk e = 1 ∧ top U (gEn w h e 0) = t)) ∧ gI τ 6 t = pI (∃ k, k < gK w h ∧ top U k = t ∧ lse w h mk k)
theorem m_joins {τ : vSt} {w h : Nat} {cnt : Nat → Int32} {mk : Nat → Nat} (hg : MG τ w h cnt mk) : ∃ τ' U, f_X7_joins τ = some τ' ∧ Fr WJ τ τ' ∧ JN τ' w h mk U := by
  have hd := hg.1.2.2
  have h40 := gE_40 hd
  have h25 := gK_25 hd
  unfold f_X7_joins
  rw [m_corners hg.1]
  simp only [ob]
  obtain ⟨τ1, e1, s1, v1⟩ := m_joins1 hd 600 0 τ τ (Nat.zero_le _) (by omega) Fr.rf (fun k hk => absurd hk (Nat.not_lt_zero k))
  rw [e1]
  simp only [ob]
  have s1' : Fr WJ τ (sI τ1 0 8 (nI 0)) := s1.up (by simp)
  have hg1 := hg.same s1'.1
  rw [m_edges hg1.1]
  simp only [ob]
  obtain ⟨τ2, U, e2, s2, r2, u2, c2, z2⟩ := m_joins2 (w := w) (h := h) (cnt := cnt) (mk := mk) 600 0 (sI τ1 0 8 (nI 0)) τ (fun k => k) hg (Nat.zero_le _) (by omega) s1' (fun k hk => by simp [sI_if, (v1 k hk).1]) (UF_0 (fun k _ => rfl)) (by simp [sI_if, cnP_0]) (fun k hk => by simp [sI_if, (v1 k hk).2])
  rw [e2]
  simp only [ob]
  obtain ⟨τ3, e3, s3, r3, c3, z3⟩ := m_joins3 (w := w) (h := h) (cnt := cnt) (mk := mk) (U := U) 600 0 τ2 τ2 (hg.same s2.1) u2.1 (Nat.zero_le _) (by omega) Fr.rf r2 rfl (fun t ht => by rw [cnP_0]; exact z2 t ht)
  rw [e3]
  simp only [ob]
  obtain ⟨τ4, e4, s4, r4, c4, z4⟩ := m_joins4 (w := w) (h := h) (cnt := cnt) (mk := mk) (U := U) 600 0 τ3 τ3 ((hg.same s2.1).same s3.1) u2.1 (Nat.zero_le _) (by omega) Fr.rf r3 rfl (fun t ht => ⟨rfl, by rw [(z3 t ht).2, pI_f (fun ⟨k, a, _⟩ => absurd a (Nat.not_lt_zero k))]⟩)
  rw [e4]
  simp only [ob]
  exact ⟨τ4, U, rfl, (s2.tr s3).tr s4, r4, u2, by rw [c4, c3, c2], fun t ht => ⟨by rw [(z4 t ht).1, (z3 t ht).1], (z4 t ht).2⟩⟩
