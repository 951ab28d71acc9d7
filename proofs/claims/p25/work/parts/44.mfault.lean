/-! THE REFERENCE'S FAULT -/
theorem RF.fq {τ τ' : vSt} {x : Sn} {L : List Sn} {T : List Int32} (r : RF τ x L T) (f : Fr WQ τ τ') : RF τ' x L T :=
  ⟨fun j hj => (f.1 j).trans (r.1 j hj), r.2.1, r.2.2.1.same (f.2.1 0 2 (fun z => by rcases z with z | z <;> omega)) (fun j => f.2.1 2 j (fun z => by rcases z with z | z <;> omega)), r.2.2.2.same (f.2.1 0 4 (fun z => by rcases z with z | z <;> omega)) (fun j => f.2.1 3 j (fun z => by rcases z with z | z <;> omega))⟩
def fltV (T : List Int32) : Int32 := match rdT T.length (tk T 0) 0 4 1 [] with
  | .inr q => nI q
  | .inl _ => -1
theorem m_fault {τ : vSt} {x : Sn} {L : List Sn} {T : List Int32} (q : RF τ x L T) (okT : ∀ i, i < T.length → ¬ txV T i = -1) : ∃ τ', f_X7_fault τ = some (fltV T, τ') ∧ RF τ' x L T := by
  obtain ⟨τ', e, f, ⟨p, a, _, b⟩ | ⟨w, h, cs, a, _, _, _, _, b, _⟩⟩ := m_reads q.2.2.2 okT
  · unfold f_X7_fault fltV
    rw [e]
    simp only [ob]
    rw [b, a]
    exact ⟨τ', rfl, q.fq f⟩
  · unfold f_X7_fault fltV
    rw [e]
    simp only [ob]
    rw [b, a]
    exact ⟨τ', rfl, q.fq f⟩
