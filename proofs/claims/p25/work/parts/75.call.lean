/-! BOTH SIDES: the start, and all calls -/
theorem mg_I (n : Nat) (σ z : vSt) (q j : Nat) : gI (mergeS n σ z) q j = if q < n then gI σ q j else gI z q j := by
  unfold gI mergeS
  by_cases h : q < n
  · simp [h]
  · simp [h]
theorem mg_L (n : Nat) (σ z : vSt) (q j : Nat) : gL (mergeS n σ z) q j = if q < n then gL σ q j else gL z q j := by
  unfold gL mergeS
  by_cases h : q < n
  · simp [h]
  · simp [h]
theorem zC_0 {q j : Nat} (h : q ≠ 6 ∧ q ≠ 11 ∧ q ≠ 13 ∧ q ≠ 16) : gI zC q j = nI 0 := by
  unfold gI zC
  simp [h.1, h.2.1, h.2.2.1, h.2.2.2]
  rfl
theorem p_start : ∃ (σ1 σ2 τ1 : vSt) (e1 : Int64), f_X1_lay (3 : Int32) (3 : Int32) st_0 = some σ1 ∧ f_X1_allEdges σ1 = some e1 ∧ f_X0_begin 6 (0 : Int64) e1 (mergeS 6 σ1 zC) = some σ2 ∧ f_X7_tail st_0 = some τ1 ∧ Rl (mergeS 8 σ2 zC) τ1 := by
  obtain ⟨σ1, e1, _, g1⟩ := k_lay st_0 dim_33
  obtain ⟨v, e2, hv⟩ := k_allEdges g1.1
  have g2 : GD (mergeS 6 σ1 zC) 3 3 (fun _ => -1) := g1.row1 (fun q j h _ => by rw [mg_I, if_pos h]) (fun q j h => by rw [mg_L, if_pos h]) (fun k hk => by rw [mg_I, if_pos (by decide)]; exact g1.2.2.1 k hk)
  obtain ⟨σ2, e3, f3, s3⟩ := k_begin (b := 6) (mk := z0) (by decide) g2 (bt_z0 3 3) hv
  have g3 := g2.fb (by decide) f3
  obtain ⟨τ1, e4, r4⟩ := m_tail st_0 (fun _ _ => rfl)
  refine ⟨σ1, σ2, τ1, v, e1, e2, e3, e4, x0, [], [], ⟨?_, ?_, fun r _ => ?_, ⟨0, by decide, ?_, ?_, by decide, fun s y hy => by simp at hy⟩, ?_, by decide, fun i c hc => by simp at hc⟩, r4, fun s y hy => by simp at hy, fun i c hc => by simp at hc⟩
  · exact g3.row1 (fun q j h _ => by rw [mg_I, if_pos (by omega)]) (fun q j h => by rw [mg_L, if_pos (by omega)]) (fun k hk => by rw [mg_I, if_pos (by decide)]; exact g3.2.2.1 k hk)
  · exact SY_of s3 (fun j _ _ _ => by rw [mg_I, if_pos (by decide)]) (fun j _ => by rw [mg_I, if_pos (by decide)]) (fun j _ => by rw [mg_L, if_pos (by decide)])
  · rw [mg_I, if_neg (by decide), zC_0 (by decide)]; rfl
  · rw [mg_I, if_neg (by decide), zC_0 (by decide)]
  · rw [mg_I, if_neg (by decide), zC_0 (by decide)]; rfl
  · rw [mg_I, if_neg (by decide), zC_0 (by decide)]; rfl
theorem p_steps : LawSteps Rl := ⟨s_type, s_clear, s_fault, s_setPuzzle, s_setCount, s_mark, s_wipe, s_deduce, s_deduceAll, s_undo, s_countOf, s_edge, s_edgeAt, s_misfit, s_hint, s_way, s_solutions, s_nodes, s_solved, s_grade, s_count, s_digest⟩
