/-! THE TEXT: its marks without blanks; the reference's next -/
def tk : List Int32 → Nat → List (Int32 × Nat)
  | [], _ => []
  | c :: cs, p => if c = nI 32 then tk cs (p + 1) else (c, p) :: tk cs (p + 1)
theorem tx_drop {T : List Int32} {p : Nat} (hp : p < T.length) : T.drop p = txV T p :: T.drop (p + 1) := by
  rw [List.drop_eq_getElem_cons hp]
  have := tx_get hp
  rw [List.getElem?_eq_getElem hp] at this
  rw [Option.some.inj this]
theorem tk_sp {T : List Int32} {p : Nat} (hp : p < T.length) (e : txV T p = nI 32) : tk (T.drop p) p = tk (T.drop (p + 1)) (p + 1) := by
  rw [tx_drop hp]; exact if_pos e
theorem tk_ch {T : List Int32} {p : Nat} (hp : p < T.length) (e : ¬ txV T p = nI 32) : tk (T.drop p) p = (txV T p, p) :: tk (T.drop (p + 1)) (p + 1) := by
  rw [tx_drop hp]; exact if_neg e
theorem tk_end {T : List Int32} {p : Nat} (hp : T.length ≤ p) : tk (T.drop p) p = [] := by
  rw [List.drop_eq_nil_of_le hp]; rfl
def WA (q j : Nat) : Prop := q = 0 ∧ j = 21
theorem m_next1 {T : List Int32} : ∀ (n p : Nat) (τ : vSt), p ≤ T.length → T.length < p + n → TX τ T → gI τ 0 21 = nI p → ∃ τ' p', f_X7_next_0 n τ = some τ' ∧ gI τ' 0 21 = nI p' ∧ p' ≤ T.length ∧ tk (T.drop p) p = tk (T.drop p') p' ∧ (p' < T.length → ¬ txV T p' = nI 32) ∧ Fr WA τ τ' := by
  intro n
  induction n with
  | zero => intro p τ h1 h2; omega
  | succ n ih =>
    intro p τ h1 h2 ht hp
    have h40 := ht.2.1
    rw [f_X7_next_0.eq_2, ht.1, hp]
    by_cases a : T.length ≤ p
    · rw [if_pos ((nI_leI (by omega) (by omega)).mpr a)]
      exact ⟨τ, p, rfl, hp, h1, rfl, fun b => by omega, Fr.rf⟩
    · have hlt : p < T.length := by omega
      rw [if_neg (by rw [nI_leI (by omega) (by omega)]; exact a), if_pos (ig (by omega) (by omega)), nI_clamp (by omega), ht.2.2 p _ (tx_get hlt)]
      by_cases c : txV T p = nI 32
      · rw [if_pos c, nI_add]
        have f1 : Fr WA τ (sI τ 0 21 (nI (p + 1))) := Fr.rf.wr ⟨rfl, rfl⟩ (by decide)
        obtain ⟨τ', p', e, x1, x2, x3, x4, x5⟩ := ih (p + 1) (sI τ 0 21 (nI (p + 1))) (by omega) (by omega) (ht.same (f1.2.1 0 4 (fun z => by have := z.2; omega)) (fun j => f1.2.1 3 j (fun z => by have := z.1; omega))) (sI_same _ _ _ _)
        exact ⟨τ', p', e, x1, x2, (tk_sp hlt c).trans x3, x4, f1.tr x5⟩
      · rw [if_neg c]
        exact ⟨τ, p, rfl, hp, h1, rfl, fun _ => c, Fr.rf⟩
theorem m_next {T : List Int32} {p : Nat} {τ : vSt} (h1 : p ≤ T.length) (ht : TX τ T) (hp : gI τ 0 21 = nI p) : ∃ τ', Fr WA τ τ' ∧ ((tk (T.drop p) p = [] ∧ f_X7_next τ = some (-1, τ') ∧ gI τ' 0 21 = nI T.length) ∨ ∃ p', p' < T.length ∧ tk (T.drop p) p = (txV T p', p') :: tk (T.drop (p' + 1)) (p' + 1) ∧ f_X7_next τ = some (txV T p', τ') ∧ gI τ' 0 21 = nI p') := by
  have h40 := ht.2.1
  obtain ⟨τ', p', e, x1, x2, x3, x4, x5⟩ := m_next1 600 p τ h1 (by omega) ht hp
  have ht' : TX τ' T := ht.same (x5.2.1 0 4 (fun z => by have := z.2; omega)) (fun j => x5.2.1 3 j (fun z => by have := z.1; omega))
  refine ⟨τ', x5, ?_⟩
  unfold f_X7_next
  rw [e]
  simp only [ob]
  rw [ht'.1, x1]
  by_cases a : T.length ≤ p'
  · rw [if_pos ((nI_leI (by omega) (by omega)).mpr a)]
    exact Or.inl ⟨x3.trans (tk_end a), rfl, by rw [show p' = T.length by omega]⟩
  · have hlt : p' < T.length := by omega
    rw [if_neg (by rw [nI_leI (by omega) (by omega)]; exact a), if_pos (ig (by omega) (by omega)), nI_clamp (by omega), ht'.2.2 p' _ (tx_get hlt)]
    exact Or.inr ⟨p', hlt, x3.trans (tk_ch hlt (x4 hlt)), rfl, rfl⟩
