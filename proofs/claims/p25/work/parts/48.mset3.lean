/-! THE REFERENCE'S SET PUZZLE -/
theorem m_setPuzzle {τ : vSt} {x : Sn} {L : List Sn} {T : List Int32} (q : RF τ x L T) (okT : ∀ i, i < T.length → ¬ txV T i = -1) (hdim : ∀ w h, 1 ≤ w → w ≤ 4 → 1 ≤ h → h ≤ 4 → dim w h) : ∃ τ', (∃ p, rdT T.length (tk T 0) 0 4 1 [] = .inr p ∧ f_X7_setPuzzle τ = some (-3, τ') ∧ RF τ' x L T) ∨ (∃ w h cs, rdT T.length (tk T 0) 0 4 1 [] = .inl (w, h, cs) ∧ f_X7_setPuzzle τ = some (nI (gE w h), τ') ∧ RF τ' (pzS w h cs) (kp L x) T) := by
  obtain ⟨τ1, e1, f1, ⟨p, a, hp, b⟩ | ⟨w, h, cs, a, w4, h1, h4, _, b, b19, b20, bl, bc⟩⟩ := m_reads q.2.2.2 okT
  · refine ⟨τ1, Or.inl ⟨p, a, ?_, q.fq f1⟩⟩
    have h40 := q.2.2.2.2.1
    unfold f_X7_setPuzzle
    rw [e1]
    simp only [ob]
    rw [b, if_neg (nI_nem1 (by omega))]
  · have w1 : 1 ≤ w := rdT_w _ _ _ _ _ _ _ _ (Or.inl rfl) (by decide) a
    have hd := hdim w h w1 w4 h1 h4
    have q1 := q.fq f1
    obtain ⟨τ2, e2, hh2, f2⟩ := m_keeps q1.1 q1.2.2.1
    have q2 := q1.kp hh2 f2
    have c19 : gI τ2 0 19 = nI w := by rw [f2.2.1 0 19 (fun z => by rcases z with z | z <;> omega)]; exact b19
    have c20 : gI τ2 0 20 = nI h := by rw [f2.2.1 0 20 (fun z => by rcases z with z | z <;> omega)]; exact b20
    have c8 : ∀ j, gI τ2 8 j = gI τ1 8 j := fun j => f2.2.1 8 j (fun z => by rcases z with z | z <;> omega)
    unfold f_X7_setPuzzle
    rw [e1]
    simp only [ob]
    rw [b, if_pos rfl, e2]
    simp only [ob]
    rw [sI_ne τ2 _ (by simp), c19, c20]
    obtain ⟨τ3, e3, p1, p2, _⟩ := m_set1 w1 w4 h4 600 0 (sI (sI τ2 1 0 (nI w)) 1 1 (nI h)) (by decide) (by decide) ⟨by rw [sI_ne _ _ (by simp), sI_same], sI_same _ _ _ _, hd⟩ (by rw [sI_ne _ _ (by simp), sI_ne _ _ (by simp)]; exact c19)
    rw [e3]
    simp only [ob]
    obtain ⟨τ4, e4, r1, r2, _⟩ := m_set2 600 18 τ3 (by decide) (by decide) (by decide)
    rw [e4]
    simp only [ob]
    have k0 : ∀ q' j, q' ≠ 1 → gI τ4 q' j = gI τ2 q' j := fun q' j hn => by rw [r2 q' j (by omega), p2 q' j (by omega), sI_ne _ _ (Or.inl hn), sI_ne _ _ (Or.inl hn)]
    have m0 : gI τ4 1 0 = nI w := by rw [r2 1 0 (by omega), p2 1 0 (by omega), sI_ne _ _ (by simp), sI_same]
    have m1 : gI τ4 1 1 = nI h := by rw [r2 1 1 (by omega), p2 1 1 (by omega), sI_same]
    rw [m_edges ⟨m0, m1, hd⟩]
    simp only [ob]
    refine ⟨τ4, Or.inr ⟨w, h, cs, a, rfl, ?_, ⟨hd, fun _ => Nat.zero_lt_succ 2, fun _ _ => rfl, fun c hc => if_pos hc⟩, q2.2.2.1.same (k0 0 2 (by decide)) (fun j => k0 2 j (by decide)), q2.2.2.2.same (k0 0 4 (by decide)) (fun j => k0 3 j (by decide))⟩⟩
    intro j hj
    show _ = if j = 0 then nI w else if j = 1 then nI h else if j < 18 then (if gC w h ≤ j - 2 then -1 else txV cs (j - 2)) else if j < 58 then nI 0 else nI 0
    by_cases d1 : j = 0
    · rw [if_pos d1, d1]; exact m0
    rw [if_neg d1]
    by_cases d2 : j = 1
    · rw [if_pos d2, d2]; exact m1
    rw [if_neg d2]
    by_cases d3 : j < 18
    · have hp := p1 (j - 2) (Nat.zero_le _) (by omega)
      rw [show 2 + (j - 2) = j by omega] at hp
      rw [if_pos d3, r2 1 j (by omega), hp]
      by_cases c : gC w h ≤ j - 2
      · rw [if_pos c, if_pos c]
      · rw [if_neg c, if_neg c, sI_ne _ _ (by simp), sI_ne _ _ (by simp), c8]
        have hq : (j - 2) / w < h := Nat.div_lt_of_lt_mul (Nat.not_le.mp c)
        have hx := bc ((j - 2) / w) ((j - 2) % w) hq (Nat.mod_lt _ w1)
        rw [Nat.mul_comm, Nat.div_add_mod] at hx
        unfold txV
        rw [List.getD_eq_getElem?_getD, hx]
        rfl
    · rw [if_neg d3, r1 j (by omega) hj]
      split <;> rfl
