/-! THE LAW: two worlds in one heap -/
section KL
variable {p : Program} {l : Launch} {e : Env} {R : Room} {s : State} {m : MethodId} {args : Array Value} {below : List Frame} {meth : Method} {c : Code} {H : Heap} {locs : List Loc} {cells slots : Nat} {Q : State → Prop}
variable {cc : ByteArray} {nL : Nat} {own : String} {K : vK} {N : Nat} {ad : Nat → Nat} {cf : vCf} {A : Nat → Prop} {σ : vSt} {pc : Nat} {ls : Array Slot} {rest : List Value}
theorem PW_other {N' : Nat} {ad' : Nat → Nat} {cf' : vCf} {τ : vSt} (hw : PW K N' ad' cf' A s.heap τ H locs) (hd : ∀ i j, i < N' → j < N → ad' i ≠ ad j) {H1 : Heap} {locs1 : List Loc} (hk : ∀ q : Nat, q < H.size → ¬ AA N ad H.size q → H1[q]? = H[q]?) (hS : va_S A s.heap H1 locs1) : PW K N' ad' cf' A s.heap τ H1 locs1 := by
  refine ⟨fun k q hq => ?_, hS⟩
  obtain ⟨hN, rfl⟩ := wG_some hq
  refine (hw.1 k _ hq).kept (hk _ (hw.1 k _ hq).lt ?_)
  rintro (⟨j, hj, h⟩ | h)
  · exact hd k j hN hj h
  · exact absurd (hw.1 k _ hq).lt (Nat.not_lt.mpr h)
variable {y : MethodName} {cb : ByteArray} {maxL index n q ci k : Nat} {rm : Room} {As st : List Value} {σ' : vSt} {C : String} {fs : List Value} {T : u_T}
theorem kL_i {r : Int32} {N' : Nat} {ad' : Nat → Nat} {cf' : vCf} {τ : vSt} (E : EC p s m args c cc nL gtbl own K N ad cf A) (hw : PW K N ad cf A s.heap σ H locs) (hw' : PW K N' ad' cf' A s.heap τ H locs) (hdj : ∀ i j, i < N' → j < N → ad' i ≠ ad j) (hM : MCi l y (wsY y cb maxL (some .int)) rm K N ad cf (.ref (ad q) :: As) σ r σ') (h1 : MI y cb maxL (some .int) C n) (h2 : MV y C) (h3 : Cond.methodLink own index y ∈ gtbl) (hq : q < N) (he : cf q (σ.1 q) (σ.2 q) = .inr (ci, fs)) (hc : vwCl[ci]? = some (C, T, k)) (hn : As.length = n) (hR : (rm.frames + 1 ≤ R.frames ∧ 8 + (maxL + 11) + rm.locals ≤ R.locals) ∧ rm.cells = 0 ∧ rm.slots = 0) (hf : cells ≤ R.cells ∧ slots ≤ R.slots) (hls : ls.size = nL) (hst : st = As.reverse ++ .ref (ad q) :: rest) (hro : (rest.map fun v => v.category).sum ≤ 8) (hdg : decode cc pc = .ok (.invokevirtual index, 3))
    (kk : ∀ (H1 : Heap) (locs1 : List Loc), PW K N ad cf A s.heap σ' H1 locs1 → PW K N' ad' cf' A s.heap τ H1 locs1 → W p l e R s m args below meth c H1 locs1 cells slots Q (F0 m (pc + 3) ls (.int r :: rest))) : W p l e R s m args below meth c H locs cells slots Q (F0 m pc ls st) := by
  have hx := E.1
  have hK := E.2.2.2.2.2.1
  refine va_calli (va_runV (As := As) (rest := rest) ⟨E.1, E.2.1, E.2.2.1, E.2.2.2.1, E.2.2.2.2.1⟩ (hM H.size) (cwV n E.2.2.2.2.1 (gd_V h1 h2 h3) rfl hR.2.1 hR.2.2 h1.2.2 hR.1) ⟨PcW_blind, va_recv hK hw.1 (ci := ci) (q0 := q) hc (by rw [wG_at hq, he]), PcW_at E hw⟩ rfl hn hls hst (lv_room hro) hdg ⟨hf.1, hf.2⟩) hw.2 (fun q _ h => AA_sub E hw.2 q h) (AA_sub E hw.2) (fun r1 u t H1 locs1 ht hvm hp hB hz hk hS => ?_)
  obtain ⟨rfl, rfl⟩ := hp
  exact kk H1 locs1 ⟨by rw [← ht]; exact hB, hS⟩ (PW_other hw' hdj hk hS)
theorem kL_l {r : Int64} {N' : Nat} {ad' : Nat → Nat} {cf' : vCf} {τ : vSt} (E : EC p s m args c cc nL gtbl own K N ad cf A) (hw : PW K N ad cf A s.heap σ H locs) (hw' : PW K N' ad' cf' A s.heap τ H locs) (hdj : ∀ i j, i < N' → j < N → ad' i ≠ ad j) (hM : MCl l y (wsY y cb maxL (some .long)) rm K N ad cf (.ref (ad q) :: As) σ r σ') (h1 : MI y cb maxL (some .long) C n) (h2 : MV y C) (h3 : Cond.methodLink own index y ∈ gtbl) (hq : q < N) (he : cf q (σ.1 q) (σ.2 q) = .inr (ci, fs)) (hc : vwCl[ci]? = some (C, T, k)) (hn : As.length = n) (hR : (rm.frames + 1 ≤ R.frames ∧ 8 + (maxL + 11) + rm.locals ≤ R.locals) ∧ rm.cells = 0 ∧ rm.slots = 0) (hf : cells ≤ R.cells ∧ slots ≤ R.slots) (hls : ls.size = nL) (hst : st = As.reverse ++ .ref (ad q) :: rest) (hro : (rest.map fun v => v.category).sum ≤ 8) (hdg : decode cc pc = .ok (.invokevirtual index, 3))
    (kk : ∀ (H1 : Heap) (locs1 : List Loc), PW K N ad cf A s.heap σ' H1 locs1 → PW K N' ad' cf' A s.heap τ H1 locs1 → W p l e R s m args below meth c H1 locs1 cells slots Q (F0 m (pc + 3) ls (.long r :: rest))) : W p l e R s m args below meth c H locs cells slots Q (F0 m pc ls st) := by
  have hx := E.1
  have hK := E.2.2.2.2.2.1
  refine va_calll (va_runV (As := As) (rest := rest) ⟨E.1, E.2.1, E.2.2.1, E.2.2.2.1, E.2.2.2.2.1⟩ (hM H.size) (cwV n E.2.2.2.2.1 (gd_V h1 h2 h3) rfl hR.2.1 hR.2.2 h1.2.2 hR.1) ⟨PcW_blind, va_recv hK hw.1 (ci := ci) (q0 := q) hc (by rw [wG_at hq, he]), PcW_at E hw⟩ rfl hn hls hst (lv_room hro) hdg ⟨hf.1, hf.2⟩) hw.2 (fun q _ h => AA_sub E hw.2 q h) (AA_sub E hw.2) (fun r1 u t H1 locs1 ht hvm hp hB hz hk hS => ?_)
  obtain ⟨rfl, rfl⟩ := hp
  exact kk H1 locs1 ⟨by rw [← ht]; exact hB, hS⟩ (PW_other hw' hdj hk hS)
end KL
theorem lg_cmp_self (x : Int64) : lg_cmp x x = 0 := by simp [lg_cmp]
def Stp_0 (Rel : vSt → vSt → Prop) : Prop := ∀ (σ τ : vSt) (a1 a2 a3 : Int32), Rel σ τ → ∃ r : Int32, ∃ σ' : vSt, ∃ τ' : vSt, f_X6_type a1 σ = some (r, σ') ∧ f_X7_type a1 τ = some (r, τ') ∧ Rel σ' τ'
def Stp_1 (Rel : vSt → vSt → Prop) : Prop := ∀ (σ τ : vSt) (a1 a2 a3 : Int32), Rel σ τ → ∃ r : Int32, ∃ σ' : vSt, ∃ τ' : vSt, f_X6_clearText σ = some (r, σ') ∧ f_X7_clearText τ = some (r, τ') ∧ Rel σ' τ'
def Stp_2 (Rel : vSt → vSt → Prop) : Prop := ∀ (σ τ : vSt) (a1 a2 a3 : Int32), Rel σ τ → ∃ r : Int32, ∃ σ' : vSt, ∃ τ' : vSt, f_X6_fault σ = some (r, σ') ∧ f_X7_fault τ = some (r, τ') ∧ Rel σ' τ'
def Stp_3 (Rel : vSt → vSt → Prop) : Prop := ∀ (σ τ : vSt) (a1 a2 a3 : Int32), Rel σ τ → ∃ r : Int32, ∃ σ' : vSt, ∃ τ' : vSt, f_X6_setPuzzle σ = some (r, σ') ∧ f_X7_setPuzzle τ = some (r, τ') ∧ Rel σ' τ'
def Stp_4 (Rel : vSt → vSt → Prop) : Prop := ∀ (σ τ : vSt) (a1 a2 a3 : Int32), Rel σ τ → ∃ r : Int32, ∃ σ' : vSt, ∃ τ' : vSt, f_X6_setCount a1 a2 σ = some (r, σ') ∧ f_X7_setCount a1 a2 τ = some (r, τ') ∧ Rel σ' τ'
def Stp_5 (Rel : vSt → vSt → Prop) : Prop := ∀ (σ τ : vSt) (a1 a2 a3 : Int32), Rel σ τ → ∃ r : Int32, ∃ σ' : vSt, ∃ τ' : vSt, f_X6_mark a1 a2 σ = some (r, σ') ∧ f_X7_mark a1 a2 τ = some (r, τ') ∧ Rel σ' τ'
def Stp_6 (Rel : vSt → vSt → Prop) : Prop := ∀ (σ τ : vSt) (a1 a2 a3 : Int32), Rel σ τ → ∃ r : Int32, ∃ σ' : vSt, ∃ τ' : vSt, f_X6_wipe σ = some (r, σ') ∧ f_X7_wipe τ = some (r, τ') ∧ Rel σ' τ'
def Stp_7 (Rel : vSt → vSt → Prop) : Prop := ∀ (σ τ : vSt) (a1 a2 a3 : Int32), Rel σ τ → ∃ r : Int32, ∃ σ' : vSt, ∃ τ' : vSt, f_X6_deduce σ = some (r, σ') ∧ f_X7_deduce τ = some (r, τ') ∧ Rel σ' τ'
def Stp_8 (Rel : vSt → vSt → Prop) : Prop := ∀ (σ τ : vSt) (a1 a2 a3 : Int32), Rel σ τ → ∃ r : Int32, ∃ σ' : vSt, ∃ τ' : vSt, f_X6_deduceAll a1 σ = some (r, σ') ∧ f_X7_deduceAll a1 τ = some (r, τ') ∧ Rel σ' τ'
def Stp_9 (Rel : vSt → vSt → Prop) : Prop := ∀ (σ τ : vSt) (a1 a2 a3 : Int32), Rel σ τ → ∃ r : Int32, ∃ σ' : vSt, ∃ τ' : vSt, f_X6_undo σ = some (r, σ') ∧ f_X7_undo τ = some (r, τ') ∧ Rel σ' τ'
def Stp_10 (Rel : vSt → vSt → Prop) : Prop := ∀ (σ τ : vSt) (a1 a2 a3 : Int32), Rel σ τ → ∃ r : Int32, f_X6_countOf a1 σ = some r ∧ f_X7_countOf a1 τ = some r ∧ Rel σ τ
def Stp_11 (Rel : vSt → vSt → Prop) : Prop := ∀ (σ τ : vSt) (a1 a2 a3 : Int32), Rel σ τ → ∃ r : Int32, f_X6_edge a1 σ = some r ∧ f_X7_edge a1 τ = some r ∧ Rel σ τ
def Stp_12 (Rel : vSt → vSt → Prop) : Prop := ∀ (σ τ : vSt) (a1 a2 a3 : Int32), Rel σ τ → ∃ r : Int32, f_X6_edgeAt (if a1 = 0 then 0 else 1) a2 a3 σ = some r ∧ f_X7_edgeAt (if a1 = 0 then 0 else 1) a2 a3 τ = some r ∧ Rel σ τ
def Stp_13 (Rel : vSt → vSt → Prop) : Prop := ∀ (σ τ : vSt) (a1 a2 a3 : Int32), Rel σ τ → ∃ r : Int32, ∃ τ' : vSt, f_X6_misfit a1 σ = some r ∧ f_X7_misfit a1 τ = some (r, τ') ∧ Rel σ τ'
def Stp_14 (Rel : vSt → vSt → Prop) : Prop := ∀ (σ τ : vSt) (a1 a2 a3 : Int32), Rel σ τ → ∃ r : Int32, ∃ σ' : vSt, ∃ τ' : vSt, f_X6_hint a1 σ = some (r, σ') ∧ f_X7_hint a1 τ = some (r, τ') ∧ Rel σ' τ'
def Stp_15 (Rel : vSt → vSt → Prop) : Prop := ∀ (σ τ : vSt) (a1 a2 a3 : Int32), Rel σ τ → ∃ r : Int32, ∃ τ' : vSt, f_X6_way a1 a2 σ = some r ∧ f_X7_way a1 a2 τ = some (r, τ') ∧ Rel σ τ'
def Stp_16 (Rel : vSt → vSt → Prop) : Prop := ∀ (σ τ : vSt) (a1 a2 a3 : Int32), Rel σ τ → ∃ r : Int32, ∃ σ' : vSt, ∃ τ' : vSt, f_X6_solutions a1 σ = some (r, σ') ∧ f_X7_solutions a1 τ = some (r, τ') ∧ Rel σ' τ'
def Stp_17 (Rel : vSt → vSt → Prop) : Prop := ∀ (σ τ : vSt) (a1 a2 a3 : Int32), Rel σ τ → ∃ r : Int32, ∃ σ' : vSt, ∃ τ' : vSt, f_X6_nodes a1 σ = some (r, σ') ∧ f_X7_nodes a1 τ = some (r, τ') ∧ Rel σ' τ'
def Stp_18 (Rel : vSt → vSt → Prop) : Prop := ∀ (σ τ : vSt) (a1 a2 a3 : Int32), Rel σ τ → ∃ r : Int32, ∃ σ' : vSt, ∃ τ' : vSt, f_X6_solved a1 σ = some (r, σ') ∧ f_X7_solved a1 τ = some (r, τ') ∧ Rel σ' τ'
def Stp_19 (Rel : vSt → vSt → Prop) : Prop := ∀ (σ τ : vSt) (a1 a2 a3 : Int32), Rel σ τ → ∃ r : Int32, ∃ σ' : vSt, ∃ τ' : vSt, f_X6_grade σ = some (r, σ') ∧ f_X7_grade τ = some (r, τ') ∧ Rel σ' τ'
def Stp_20 (Rel : vSt → vSt → Prop) : Prop := ∀ (σ τ : vSt) (a1 a2 a3 : Int32), Rel σ τ → ∃ r : Int32, f_X6_count a1 σ = some r ∧ f_X7_count a1 τ = some r ∧ Rel σ τ
def Stp_21 (Rel : vSt → vSt → Prop) : Prop := ∀ (σ τ : vSt) (a1 a2 a3 : Int32), Rel σ τ → ∃ r : Int64, ∃ σ' : vSt, ∃ τ' : vSt, f_X6_digest σ = some (r, σ') ∧ f_X7_digest τ = some (r, τ') ∧ Rel σ' τ'
def LawSteps (Rel : vSt → vSt → Prop) : Prop := Stp_0 Rel ∧ Stp_1 Rel ∧ Stp_2 Rel ∧ Stp_3 Rel ∧ Stp_4 Rel ∧ Stp_5 Rel ∧ Stp_6 Rel ∧ Stp_7 Rel ∧ Stp_8 Rel ∧ Stp_9 Rel ∧ Stp_10 Rel ∧ Stp_11 Rel ∧ Stp_12 Rel ∧ Stp_13 Rel ∧ Stp_14 Rel ∧ Stp_15 Rel ∧ Stp_16 Rel ∧ Stp_17 Rel ∧ Stp_18 Rel ∧ Stp_19 Rel ∧ Stp_20 Rel ∧ Stp_21 Rel
set_option maxHeartbeats 4000000 in
set_option maxRecDepth 100000 in
theorem law_case_0 {p : Program} {l : Launch} {e : Env} {s : State} {m : MethodId} {below : List Frame} {meth : Method} {c : Code} {b L : Nat} {xs : Nat → Int32} (hL : L ≤ 2048) (C0 : lw_At p s m meth c b L xs) {K : vK} {adC adM : Nat → Nat} (EC1 : EC p s m #[Value.ref b] c code 4 gtbl R_law K 30 adC (cC K adC) (fun q : Nat => s.heap.size ≤ q)) (EC2 : EC p s m #[Value.ref b] c code 4 gtbl R_law K 12 adM (cM K adM) (fun q : Nat => s.heap.size ≤ q)) (hIC : adInj 30 adC) (hIM : adInj 12 adM) (hdj : ∀ i j, i < 12 → j < 30 → adM i ≠ adC j) {Rel : vSt → vSt → Prop} (hst : Stp_0 Rel) (x3 : Int32) (hi1 : vp_in (x3 + 1) L) (hi2 : vp_in (x3 + 2) L) (hi3 : vp_in (x3 + 3) L) (σ τ : vSt) (hRel : Rel σ τ) (kk : ∀ (σ τ : vSt) (H : Heap) (locs : List Loc) (ls : Array Slot), Rel σ τ → PW K 30 adC (cC K adC) (fun q : Nat => s.heap.size ≤ q) s.heap σ H locs → PW K 12 adM (cM K adM) (fun q : Nat => s.heap.size ≤ q) s.heap τ H locs → lv_has ls 4 [(0, .ref b), (1, .ref (adC 8)), (2, .ref (adM 0)), (3, .int x3)] → W p l e room_1 s m #[Value.ref b] below meth c H locs 42 3498 (lw_Z below #[Value.ref b] s) (F0 m 629 ls [])) (H : Heap) (locs : List Loc) (ls : Array Slot) (hw : PW K 30 adC (cC K adC) (fun q : Nat => s.heap.size ≤ q) s.heap σ H locs) (hw2 : PW K 12 adM (cM K adM) (fun q : Nat => s.heap.size ≤ q) s.heap τ H locs) (hl : lv_has ls 4 [(0, .ref b), (1, .ref (adC 8)), (2, .ref (adM 0)), (3, .int x3)]) : W p l e room_1 s m #[Value.ref b] below meth c H locs 42 3498 (lw_Z below #[Value.ref b] s) (F0 m 136 ls []) := by
  obtain ⟨hx, hb, hr, hml, hown, hts, hX, hbl, hlocks, hgv⟩ := C0
  have hbA : ¬ (fun q : Nat => s.heap.size ≤ q) b := Nat.not_le.mpr hbl
  obtain ⟨r, σ', τ', h1, h2, hR⟩ := hst σ τ (xs (x3 + 1).toNatClampNeg) (xs (x3 + 2).toNatClampNeg) (xs (x3 + 3).toNatClampNeg) hRel
  refine lv_aload_n hx hb dL_law_136 rfl (lv_at hl 1 rfl) ?_
  refine lv_aload_n hx hb dL_law_137 rfl (lv_at hl 0 rfl) ?_
  refine lv_iload_n hx hb dL_law_138 rfl (lv_at hl 3 rfl) ?_
  refine lv_iconst (v := 1) hx hb dL_law_139 (by decide) ?_
  refine lv_iadd hx hb dL_law_140 ?_
  refine va_sld hx hb hX hbl hbA hw.2 hi1 dL_law_141 ?_
  refine kL_i (As := [.int (xs (x3 + 1).toNatClampNeg)]) (rest := []) (q := 8) EC1 hw hw2 hdj (c_X6_type l K adC hIC (xs (x3 + 1).toNatClampNeg) σ h1) mi_X6_type mv_X6_type ml_L_13 (by decide) rfl rfl rfl ⟨⟨Nat.le_of_ble_eq_true rfl, Nat.le_of_ble_eq_true rfl⟩, rfl, rfl⟩ ⟨Nat.le_of_ble_eq_true rfl, Nat.le_of_ble_eq_true rfl⟩ hl.1 rfl (Nat.le_of_ble_eq_true rfl) dL_law_142 (fun H locs hw hw2 => ?_)
  refine lv_aload_n hx hb dL_law_145 rfl (lv_at hl 2 rfl) ?_
  refine lv_aload_n hx hb dL_law_146 rfl (lv_at hl 0 rfl) ?_
  refine lv_iload_n hx hb dL_law_147 rfl (lv_at hl 3 rfl) ?_
  refine lv_iconst (v := 1) hx hb dL_law_148 (by decide) ?_
  refine lv_iadd hx hb dL_law_149 ?_
  refine va_sld hx hb hX hbl hbA hw.2 hi1 dL_law_150 ?_
  refine kL_i (As := [.int (xs (x3 + 1).toNatClampNeg)]) (rest := [.int r]) (q := 0) EC2 hw2 hw (fun i j h5 h6 h7 => hdj j i h6 h5 h7.symm) (c_X7_type l K adM hIM (xs (x3 + 1).toNatClampNeg) τ h2) mi_X7_type mv_X7_type ml_L_17 (by decide) rfl rfl rfl ⟨⟨Nat.le_of_ble_eq_true rfl, Nat.le_of_ble_eq_true rfl⟩, rfl, rfl⟩ ⟨Nat.le_of_ble_eq_true rfl, Nat.le_of_ble_eq_true rfl⟩ hl.1 rfl (Nat.le_of_ble_eq_true rfl) dL_law_151 (fun H locs hw2 hw => ?_)
  refine lv_icmp_eq (tgt := 629) hx hb dL_law_154 (by decide) (fun c9 => ?_) (fun c9 => absurd rfl c9)
  exact kk _ _ H locs ls hR hw hw2 hl
set_option maxHeartbeats 4000000 in
set_option maxRecDepth 100000 in
theorem law_case_1 {p : Program} {l : Launch} {e : Env} {s : State} {m : MethodId} {below : List Frame} {meth : Method} {c : Code} {b L : Nat} {xs : Nat → Int32} (hL : L ≤ 2048) (C0 : lw_At p s m meth c b L xs) {K : vK} {adC adM : Nat → Nat} (EC1 : EC p s m #[Value.ref b] c code 4 gtbl R_law K 30 adC (cC K adC) (fun q : Nat => s.heap.size ≤ q)) (EC2 : EC p s m #[Value.ref b] c code 4 gtbl R_law K 12 adM (cM K adM) (fun q : Nat => s.heap.size ≤ q)) (hIC : adInj 30 adC) (hIM : adInj 12 adM) (hdj : ∀ i j, i < 12 → j < 30 → adM i ≠ adC j) {Rel : vSt → vSt → Prop} (hst : Stp_1 Rel) (x3 : Int32) (hi1 : vp_in (x3 + 1) L) (hi2 : vp_in (x3 + 2) L) (hi3 : vp_in (x3 + 3) L) (σ τ : vSt) (hRel : Rel σ τ) (kk : ∀ (σ τ : vSt) (H : Heap) (locs : List Loc) (ls : Array Slot), Rel σ τ → PW K 30 adC (cC K adC) (fun q : Nat => s.heap.size ≤ q) s.heap σ H locs → PW K 12 adM (cM K adM) (fun q : Nat => s.heap.size ≤ q) s.heap τ H locs → lv_has ls 4 [(0, .ref b), (1, .ref (adC 8)), (2, .ref (adM 0)), (3, .int x3)] → W p l e room_1 s m #[Value.ref b] below meth c H locs 42 3498 (lw_Z below #[Value.ref b] s) (F0 m 629 ls [])) (H : Heap) (locs : List Loc) (ls : Array Slot) (hw : PW K 30 adC (cC K adC) (fun q : Nat => s.heap.size ≤ q) s.heap σ H locs) (hw2 : PW K 12 adM (cM K adM) (fun q : Nat => s.heap.size ≤ q) s.heap τ H locs) (hl : lv_has ls 4 [(0, .ref b), (1, .ref (adC 8)), (2, .ref (adM 0)), (3, .int x3)]) : W p l e room_1 s m #[Value.ref b] below meth c H locs 42 3498 (lw_Z below #[Value.ref b] s) (F0 m 159 ls []) := by
  obtain ⟨hx, hb, hr, hml, hown, hts, hX, hbl, hlocks, hgv⟩ := C0
  have hbA : ¬ (fun q : Nat => s.heap.size ≤ q) b := Nat.not_le.mpr hbl
  obtain ⟨r, σ', τ', h1, h2, hR⟩ := hst σ τ (xs (x3 + 1).toNatClampNeg) (xs (x3 + 2).toNatClampNeg) (xs (x3 + 3).toNatClampNeg) hRel
  refine lv_aload_n hx hb dL_law_159 rfl (lv_at hl 1 rfl) ?_
  refine kL_i (As := []) (rest := []) (q := 8) EC1 hw hw2 hdj (c_X6_clearText l K adC hIC  σ h1) mi_X6_clearText mv_X6_clearText ml_L_18 (by decide) rfl rfl rfl ⟨⟨Nat.le_of_ble_eq_true rfl, Nat.le_of_ble_eq_true rfl⟩, rfl, rfl⟩ ⟨Nat.le_of_ble_eq_true rfl, Nat.le_of_ble_eq_true rfl⟩ hl.1 rfl (Nat.le_of_ble_eq_true rfl) dL_law_160 (fun H locs hw hw2 => ?_)
  refine lv_aload_n hx hb dL_law_163 rfl (lv_at hl 2 rfl) ?_
  refine kL_i (As := []) (rest := [.int r]) (q := 0) EC2 hw2 hw (fun i j h5 h6 h7 => hdj j i h6 h5 h7.symm) (c_X7_clearText l K adM hIM  τ h2) mi_X7_clearText mv_X7_clearText ml_L_22 (by decide) rfl rfl rfl ⟨⟨Nat.le_of_ble_eq_true rfl, Nat.le_of_ble_eq_true rfl⟩, rfl, rfl⟩ ⟨Nat.le_of_ble_eq_true rfl, Nat.le_of_ble_eq_true rfl⟩ hl.1 rfl (Nat.le_of_ble_eq_true rfl) dL_law_164 (fun H locs hw2 hw => ?_)
  refine lv_icmp_eq (tgt := 629) hx hb dL_law_167 (by decide) (fun c9 => ?_) (fun c9 => absurd rfl c9)
  exact kk _ _ H locs ls hR hw hw2 hl
set_option maxHeartbeats 4000000 in
set_option maxRecDepth 100000 in
theorem law_case_2 {p : Program} {l : Launch} {e : Env} {s : State} {m : MethodId} {below : List Frame} {meth : Method} {c : Code} {b L : Nat} {xs : Nat → Int32} (hL : L ≤ 2048) (C0 : lw_At p s m meth c b L xs) {K : vK} {adC adM : Nat → Nat} (EC1 : EC p s m #[Value.ref b] c code 4 gtbl R_law K 30 adC (cC K adC) (fun q : Nat => s.heap.size ≤ q)) (EC2 : EC p s m #[Value.ref b] c code 4 gtbl R_law K 12 adM (cM K adM) (fun q : Nat => s.heap.size ≤ q)) (hIC : adInj 30 adC) (hIM : adInj 12 adM) (hdj : ∀ i j, i < 12 → j < 30 → adM i ≠ adC j) {Rel : vSt → vSt → Prop} (hst : Stp_2 Rel) (x3 : Int32) (hi1 : vp_in (x3 + 1) L) (hi2 : vp_in (x3 + 2) L) (hi3 : vp_in (x3 + 3) L) (σ τ : vSt) (hRel : Rel σ τ) (kk : ∀ (σ τ : vSt) (H : Heap) (locs : List Loc) (ls : Array Slot), Rel σ τ → PW K 30 adC (cC K adC) (fun q : Nat => s.heap.size ≤ q) s.heap σ H locs → PW K 12 adM (cM K adM) (fun q : Nat => s.heap.size ≤ q) s.heap τ H locs → lv_has ls 4 [(0, .ref b), (1, .ref (adC 8)), (2, .ref (adM 0)), (3, .int x3)] → W p l e room_1 s m #[Value.ref b] below meth c H locs 42 3498 (lw_Z below #[Value.ref b] s) (F0 m 629 ls [])) (H : Heap) (locs : List Loc) (ls : Array Slot) (hw : PW K 30 adC (cC K adC) (fun q : Nat => s.heap.size ≤ q) s.heap σ H locs) (hw2 : PW K 12 adM (cM K adM) (fun q : Nat => s.heap.size ≤ q) s.heap τ H locs) (hl : lv_has ls 4 [(0, .ref b), (1, .ref (adC 8)), (2, .ref (adM 0)), (3, .int x3)]) : W p l e room_1 s m #[Value.ref b] below meth c H locs 42 3498 (lw_Z below #[Value.ref b] s) (F0 m 172 ls []) := by
  obtain ⟨hx, hb, hr, hml, hown, hts, hX, hbl, hlocks, hgv⟩ := C0
  have hbA : ¬ (fun q : Nat => s.heap.size ≤ q) b := Nat.not_le.mpr hbl
  obtain ⟨r, σ', τ', h1, h2, hR⟩ := hst σ τ (xs (x3 + 1).toNatClampNeg) (xs (x3 + 2).toNatClampNeg) (xs (x3 + 3).toNatClampNeg) hRel
  refine lv_aload_n hx hb dL_law_172 rfl (lv_at hl 1 rfl) ?_
  refine kL_i (As := []) (rest := []) (q := 8) EC1 hw hw2 hdj (c_X6_fault l K adC hIC  σ h1) mi_X6_fault mv_X6_fault ml_L_23 (by decide) rfl rfl rfl ⟨⟨Nat.le_of_ble_eq_true rfl, Nat.le_of_ble_eq_true rfl⟩, rfl, rfl⟩ ⟨Nat.le_of_ble_eq_true rfl, Nat.le_of_ble_eq_true rfl⟩ hl.1 rfl (Nat.le_of_ble_eq_true rfl) dL_law_173 (fun H locs hw hw2 => ?_)
  refine lv_aload_n hx hb dL_law_176 rfl (lv_at hl 2 rfl) ?_
  refine kL_i (As := []) (rest := [.int r]) (q := 0) EC2 hw2 hw (fun i j h5 h6 h7 => hdj j i h6 h5 h7.symm) (c_X7_fault l K adM hIM  τ h2) mi_X7_fault mv_X7_fault ml_L_26 (by decide) rfl rfl rfl ⟨⟨Nat.le_of_ble_eq_true rfl, Nat.le_of_ble_eq_true rfl⟩, rfl, rfl⟩ ⟨Nat.le_of_ble_eq_true rfl, Nat.le_of_ble_eq_true rfl⟩ hl.1 rfl (Nat.le_of_ble_eq_true rfl) dL_law_177 (fun H locs hw2 hw => ?_)
  refine lv_icmp_eq (tgt := 629) hx hb dL_law_180 (by decide) (fun c9 => ?_) (fun c9 => absurd rfl c9)
  exact kk _ _ H locs ls hR hw hw2 hl
set_option maxHeartbeats 4000000 in
set_option maxRecDepth 100000 in
theorem law_case_3 {p : Program} {l : Launch} {e : Env} {s : State} {m : MethodId} {below : List Frame} {meth : Method} {c : Code} {b L : Nat} {xs : Nat → Int32} (hL : L ≤ 2048) (C0 : lw_At p s m meth c b L xs) {K : vK} {adC adM : Nat → Nat} (EC1 : EC p s m #[Value.ref b] c code 4 gtbl R_law K 30 adC (cC K adC) (fun q : Nat => s.heap.size ≤ q)) (EC2 : EC p s m #[Value.ref b] c code 4 gtbl R_law K 12 adM (cM K adM) (fun q : Nat => s.heap.size ≤ q)) (hIC : adInj 30 adC) (hIM : adInj 12 adM) (hdj : ∀ i j, i < 12 → j < 30 → adM i ≠ adC j) {Rel : vSt → vSt → Prop} (hst : Stp_3 Rel) (x3 : Int32) (hi1 : vp_in (x3 + 1) L) (hi2 : vp_in (x3 + 2) L) (hi3 : vp_in (x3 + 3) L) (σ τ : vSt) (hRel : Rel σ τ) (kk : ∀ (σ τ : vSt) (H : Heap) (locs : List Loc) (ls : Array Slot), Rel σ τ → PW K 30 adC (cC K adC) (fun q : Nat => s.heap.size ≤ q) s.heap σ H locs → PW K 12 adM (cM K adM) (fun q : Nat => s.heap.size ≤ q) s.heap τ H locs → lv_has ls 4 [(0, .ref b), (1, .ref (adC 8)), (2, .ref (adM 0)), (3, .int x3)] → W p l e room_1 s m #[Value.ref b] below meth c H locs 42 3498 (lw_Z below #[Value.ref b] s) (F0 m 629 ls [])) (H : Heap) (locs : List Loc) (ls : Array Slot) (hw : PW K 30 adC (cC K adC) (fun q : Nat => s.heap.size ≤ q) s.heap σ H locs) (hw2 : PW K 12 adM (cM K adM) (fun q : Nat => s.heap.size ≤ q) s.heap τ H locs) (hl : lv_has ls 4 [(0, .ref b), (1, .ref (adC 8)), (2, .ref (adM 0)), (3, .int x3)]) : W p l e room_1 s m #[Value.ref b] below meth c H locs 42 3498 (lw_Z below #[Value.ref b] s) (F0 m 185 ls []) := by
  obtain ⟨hx, hb, hr, hml, hown, hts, hX, hbl, hlocks, hgv⟩ := C0
  have hbA : ¬ (fun q : Nat => s.heap.size ≤ q) b := Nat.not_le.mpr hbl
  obtain ⟨r, σ', τ', h1, h2, hR⟩ := hst σ τ (xs (x3 + 1).toNatClampNeg) (xs (x3 + 2).toNatClampNeg) (xs (x3 + 3).toNatClampNeg) hRel
  refine lv_aload_n hx hb dL_law_185 rfl (lv_at hl 1 rfl) ?_
  refine kL_i (As := []) (rest := []) (q := 8) EC1 hw hw2 hdj (c_X6_setPuzzle l K adC hIC  σ h1) mi_X6_setPuzzle mv_X6_setPuzzle ml_L_27 (by decide) rfl rfl rfl ⟨⟨Nat.le_of_ble_eq_true rfl, Nat.le_of_ble_eq_true rfl⟩, rfl, rfl⟩ ⟨Nat.le_of_ble_eq_true rfl, Nat.le_of_ble_eq_true rfl⟩ hl.1 rfl (Nat.le_of_ble_eq_true rfl) dL_law_186 (fun H locs hw hw2 => ?_)
  refine lv_aload_n hx hb dL_law_189 rfl (lv_at hl 2 rfl) ?_
  refine kL_i (As := []) (rest := [.int r]) (q := 0) EC2 hw2 hw (fun i j h5 h6 h7 => hdj j i h6 h5 h7.symm) (c_X7_setPuzzle l K adM hIM  τ h2) mi_X7_setPuzzle mv_X7_setPuzzle ml_L_30 (by decide) rfl rfl rfl ⟨⟨Nat.le_of_ble_eq_true rfl, Nat.le_of_ble_eq_true rfl⟩, rfl, rfl⟩ ⟨Nat.le_of_ble_eq_true rfl, Nat.le_of_ble_eq_true rfl⟩ hl.1 rfl (Nat.le_of_ble_eq_true rfl) dL_law_190 (fun H locs hw2 hw => ?_)
  refine lv_icmp_eq (tgt := 629) hx hb dL_law_193 (by decide) (fun c9 => ?_) (fun c9 => absurd rfl c9)
  exact kk _ _ H locs ls hR hw hw2 hl
set_option maxHeartbeats 4000000 in
set_option maxRecDepth 100000 in
theorem law_case_4 {p : Program} {l : Launch} {e : Env} {s : State} {m : MethodId} {below : List Frame} {meth : Method} {c : Code} {b L : Nat} {xs : Nat → Int32} (hL : L ≤ 2048) (C0 : lw_At p s m meth c b L xs) {K : vK} {adC adM : Nat → Nat} (EC1 : EC p s m #[Value.ref b] c code 4 gtbl R_law K 30 adC (cC K adC) (fun q : Nat => s.heap.size ≤ q)) (EC2 : EC p s m #[Value.ref b] c code 4 gtbl R_law K 12 adM (cM K adM) (fun q : Nat => s.heap.size ≤ q)) (hIC : adInj 30 adC) (hIM : adInj 12 adM) (hdj : ∀ i j, i < 12 → j < 30 → adM i ≠ adC j) {Rel : vSt → vSt → Prop} (hst : Stp_4 Rel) (x3 : Int32) (hi1 : vp_in (x3 + 1) L) (hi2 : vp_in (x3 + 2) L) (hi3 : vp_in (x3 + 3) L) (σ τ : vSt) (hRel : Rel σ τ) (kk : ∀ (σ τ : vSt) (H : Heap) (locs : List Loc) (ls : Array Slot), Rel σ τ → PW K 30 adC (cC K adC) (fun q : Nat => s.heap.size ≤ q) s.heap σ H locs → PW K 12 adM (cM K adM) (fun q : Nat => s.heap.size ≤ q) s.heap τ H locs → lv_has ls 4 [(0, .ref b), (1, .ref (adC 8)), (2, .ref (adM 0)), (3, .int x3)] → W p l e room_1 s m #[Value.ref b] below meth c H locs 42 3498 (lw_Z below #[Value.ref b] s) (F0 m 629 ls [])) (H : Heap) (locs : List Loc) (ls : Array Slot) (hw : PW K 30 adC (cC K adC) (fun q : Nat => s.heap.size ≤ q) s.heap σ H locs) (hw2 : PW K 12 adM (cM K adM) (fun q : Nat => s.heap.size ≤ q) s.heap τ H locs) (hl : lv_has ls 4 [(0, .ref b), (1, .ref (adC 8)), (2, .ref (adM 0)), (3, .int x3)]) : W p l e room_1 s m #[Value.ref b] below meth c H locs 42 3498 (lw_Z below #[Value.ref b] s) (F0 m 198 ls []) := by
  obtain ⟨hx, hb, hr, hml, hown, hts, hX, hbl, hlocks, hgv⟩ := C0
  have hbA : ¬ (fun q : Nat => s.heap.size ≤ q) b := Nat.not_le.mpr hbl
  obtain ⟨r, σ', τ', h1, h2, hR⟩ := hst σ τ (xs (x3 + 1).toNatClampNeg) (xs (x3 + 2).toNatClampNeg) (xs (x3 + 3).toNatClampNeg) hRel
  refine lv_aload_n hx hb dL_law_198 rfl (lv_at hl 1 rfl) ?_
  refine lv_aload_n hx hb dL_law_199 rfl (lv_at hl 0 rfl) ?_
  refine lv_iload_n hx hb dL_law_200 rfl (lv_at hl 3 rfl) ?_
  refine lv_iconst (v := 1) hx hb dL_law_201 (by decide) ?_
  refine lv_iadd hx hb dL_law_202 ?_
  refine va_sld hx hb hX hbl hbA hw.2 hi1 dL_law_203 ?_
  refine lv_aload_n hx hb dL_law_204 rfl (lv_at hl 0 rfl) ?_
  refine lv_iload_n hx hb dL_law_205 rfl (lv_at hl 3 rfl) ?_
  refine lv_iconst (v := 2) hx hb dL_law_206 (by decide) ?_
  refine lv_iadd hx hb dL_law_207 ?_
  refine va_sld hx hb hX hbl hbA hw.2 hi2 dL_law_208 ?_
  refine kL_i (As := [.int (xs (x3 + 1).toNatClampNeg), .int (xs (x3 + 2).toNatClampNeg)]) (rest := []) (q := 8) EC1 hw hw2 hdj (c_X6_setCount l K adC hIC (xs (x3 + 1).toNatClampNeg) (xs (x3 + 2).toNatClampNeg) σ h1) mi_X6_setCount mv_X6_setCount ml_L_31 (by decide) rfl rfl rfl ⟨⟨Nat.le_of_ble_eq_true rfl, Nat.le_of_ble_eq_true rfl⟩, rfl, rfl⟩ ⟨Nat.le_of_ble_eq_true rfl, Nat.le_of_ble_eq_true rfl⟩ hl.1 rfl (Nat.le_of_ble_eq_true rfl) dL_law_209 (fun H locs hw hw2 => ?_)
  refine lv_aload_n hx hb dL_law_212 rfl (lv_at hl 2 rfl) ?_
  refine lv_aload_n hx hb dL_law_213 rfl (lv_at hl 0 rfl) ?_
  refine lv_iload_n hx hb dL_law_214 rfl (lv_at hl 3 rfl) ?_
  refine lv_iconst (v := 1) hx hb dL_law_215 (by decide) ?_
  refine lv_iadd hx hb dL_law_216 ?_
  refine va_sld hx hb hX hbl hbA hw.2 hi1 dL_law_217 ?_
  refine lv_aload_n hx hb dL_law_218 rfl (lv_at hl 0 rfl) ?_
  refine lv_iload_n hx hb dL_law_219 rfl (lv_at hl 3 rfl) ?_
  refine lv_iconst (v := 2) hx hb dL_law_220 (by decide) ?_
  refine lv_iadd hx hb dL_law_221 ?_
  refine va_sld hx hb hX hbl hbA hw.2 hi2 dL_law_222 ?_
  refine kL_i (As := [.int (xs (x3 + 1).toNatClampNeg), .int (xs (x3 + 2).toNatClampNeg)]) (rest := [.int r]) (q := 0) EC2 hw2 hw (fun i j h5 h6 h7 => hdj j i h6 h5 h7.symm) (c_X7_setCount l K adM hIM (xs (x3 + 1).toNatClampNeg) (xs (x3 + 2).toNatClampNeg) τ h2) mi_X7_setCount mv_X7_setCount ml_L_35 (by decide) rfl rfl rfl ⟨⟨Nat.le_of_ble_eq_true rfl, Nat.le_of_ble_eq_true rfl⟩, rfl, rfl⟩ ⟨Nat.le_of_ble_eq_true rfl, Nat.le_of_ble_eq_true rfl⟩ hl.1 rfl (Nat.le_of_ble_eq_true rfl) dL_law_223 (fun H locs hw2 hw => ?_)
  refine lv_icmp_eq (tgt := 629) hx hb dL_law_226 (by decide) (fun c9 => ?_) (fun c9 => absurd rfl c9)
  exact kk _ _ H locs ls hR hw hw2 hl
set_option maxHeartbeats 4000000 in
set_option maxRecDepth 100000 in
theorem law_case_5 {p : Program} {l : Launch} {e : Env} {s : State} {m : MethodId} {below : List Frame} {meth : Method} {c : Code} {b L : Nat} {xs : Nat → Int32} (hL : L ≤ 2048) (C0 : lw_At p s m meth c b L xs) {K : vK} {adC adM : Nat → Nat} (EC1 : EC p s m #[Value.ref b] c code 4 gtbl R_law K 30 adC (cC K adC) (fun q : Nat => s.heap.size ≤ q)) (EC2 : EC p s m #[Value.ref b] c code 4 gtbl R_law K 12 adM (cM K adM) (fun q : Nat => s.heap.size ≤ q)) (hIC : adInj 30 adC) (hIM : adInj 12 adM) (hdj : ∀ i j, i < 12 → j < 30 → adM i ≠ adC j) {Rel : vSt → vSt → Prop} (hst : Stp_5 Rel) (x3 : Int32) (hi1 : vp_in (x3 + 1) L) (hi2 : vp_in (x3 + 2) L) (hi3 : vp_in (x3 + 3) L) (σ τ : vSt) (hRel : Rel σ τ) (kk : ∀ (σ τ : vSt) (H : Heap) (locs : List Loc) (ls : Array Slot), Rel σ τ → PW K 30 adC (cC K adC) (fun q : Nat => s.heap.size ≤ q) s.heap σ H locs → PW K 12 adM (cM K adM) (fun q : Nat => s.heap.size ≤ q) s.heap τ H locs → lv_has ls 4 [(0, .ref b), (1, .ref (adC 8)), (2, .ref (adM 0)), (3, .int x3)] → W p l e room_1 s m #[Value.ref b] below meth c H locs 42 3498 (lw_Z below #[Value.ref b] s) (F0 m 629 ls [])) (H : Heap) (locs : List Loc) (ls : Array Slot) (hw : PW K 30 adC (cC K adC) (fun q : Nat => s.heap.size ≤ q) s.heap σ H locs) (hw2 : PW K 12 adM (cM K adM) (fun q : Nat => s.heap.size ≤ q) s.heap τ H locs) (hl : lv_has ls 4 [(0, .ref b), (1, .ref (adC 8)), (2, .ref (adM 0)), (3, .int x3)]) : W p l e room_1 s m #[Value.ref b] below meth c H locs 42 3498 (lw_Z below #[Value.ref b] s) (F0 m 231 ls []) := by
  obtain ⟨hx, hb, hr, hml, hown, hts, hX, hbl, hlocks, hgv⟩ := C0
  have hbA : ¬ (fun q : Nat => s.heap.size ≤ q) b := Nat.not_le.mpr hbl
  obtain ⟨r, σ', τ', h1, h2, hR⟩ := hst σ τ (xs (x3 + 1).toNatClampNeg) (xs (x3 + 2).toNatClampNeg) (xs (x3 + 3).toNatClampNeg) hRel
  refine lv_aload_n hx hb dL_law_231 rfl (lv_at hl 1 rfl) ?_
  refine lv_aload_n hx hb dL_law_232 rfl (lv_at hl 0 rfl) ?_
  refine lv_iload_n hx hb dL_law_233 rfl (lv_at hl 3 rfl) ?_
  refine lv_iconst (v := 1) hx hb dL_law_234 (by decide) ?_
  refine lv_iadd hx hb dL_law_235 ?_
  refine va_sld hx hb hX hbl hbA hw.2 hi1 dL_law_236 ?_
  refine lv_aload_n hx hb dL_law_237 rfl (lv_at hl 0 rfl) ?_
  refine lv_iload_n hx hb dL_law_238 rfl (lv_at hl 3 rfl) ?_
  refine lv_iconst (v := 2) hx hb dL_law_239 (by decide) ?_
  refine lv_iadd hx hb dL_law_240 ?_
  refine va_sld hx hb hX hbl hbA hw.2 hi2 dL_law_241 ?_
  refine kL_i (As := [.int (xs (x3 + 1).toNatClampNeg), .int (xs (x3 + 2).toNatClampNeg)]) (rest := []) (q := 8) EC1 hw hw2 hdj (c_X6_mark l K adC hIC (xs (x3 + 1).toNatClampNeg) (xs (x3 + 2).toNatClampNeg) σ h1) mi_X6_mark mv_X6_mark ml_L_36 (by decide) rfl rfl rfl ⟨⟨Nat.le_of_ble_eq_true rfl, Nat.le_of_ble_eq_true rfl⟩, rfl, rfl⟩ ⟨Nat.le_of_ble_eq_true rfl, Nat.le_of_ble_eq_true rfl⟩ hl.1 rfl (Nat.le_of_ble_eq_true rfl) dL_law_242 (fun H locs hw hw2 => ?_)
  refine lv_aload_n hx hb dL_law_245 rfl (lv_at hl 2 rfl) ?_
  refine lv_aload_n hx hb dL_law_246 rfl (lv_at hl 0 rfl) ?_
  refine lv_iload_n hx hb dL_law_247 rfl (lv_at hl 3 rfl) ?_
  refine lv_iconst (v := 1) hx hb dL_law_248 (by decide) ?_
  refine lv_iadd hx hb dL_law_249 ?_
  refine va_sld hx hb hX hbl hbA hw.2 hi1 dL_law_250 ?_
  refine lv_aload_n hx hb dL_law_251 rfl (lv_at hl 0 rfl) ?_
  refine lv_iload_n hx hb dL_law_252 rfl (lv_at hl 3 rfl) ?_
  refine lv_iconst (v := 2) hx hb dL_law_253 (by decide) ?_
  refine lv_iadd hx hb dL_law_254 ?_
  refine va_sld hx hb hX hbl hbA hw.2 hi2 dL_law_255 ?_
  refine kL_i (As := [.int (xs (x3 + 1).toNatClampNeg), .int (xs (x3 + 2).toNatClampNeg)]) (rest := [.int r]) (q := 0) EC2 hw2 hw (fun i j h5 h6 h7 => hdj j i h6 h5 h7.symm) (c_X7_mark l K adM hIM (xs (x3 + 1).toNatClampNeg) (xs (x3 + 2).toNatClampNeg) τ h2) mi_X7_mark mv_X7_mark ml_L_39 (by decide) rfl rfl rfl ⟨⟨Nat.le_of_ble_eq_true rfl, Nat.le_of_ble_eq_true rfl⟩, rfl, rfl⟩ ⟨Nat.le_of_ble_eq_true rfl, Nat.le_of_ble_eq_true rfl⟩ hl.1 rfl (Nat.le_of_ble_eq_true rfl) dL_law_256 (fun H locs hw2 hw => ?_)
  refine lv_icmp_eq (tgt := 629) hx hb dL_law_259 (by decide) (fun c9 => ?_) (fun c9 => absurd rfl c9)
  exact kk _ _ H locs ls hR hw hw2 hl
set_option maxHeartbeats 4000000 in
set_option maxRecDepth 100000 in
theorem law_case_6 {p : Program} {l : Launch} {e : Env} {s : State} {m : MethodId} {below : List Frame} {meth : Method} {c : Code} {b L : Nat} {xs : Nat → Int32} (hL : L ≤ 2048) (C0 : lw_At p s m meth c b L xs) {K : vK} {adC adM : Nat → Nat} (EC1 : EC p s m #[Value.ref b] c code 4 gtbl R_law K 30 adC (cC K adC) (fun q : Nat => s.heap.size ≤ q)) (EC2 : EC p s m #[Value.ref b] c code 4 gtbl R_law K 12 adM (cM K adM) (fun q : Nat => s.heap.size ≤ q)) (hIC : adInj 30 adC) (hIM : adInj 12 adM) (hdj : ∀ i j, i < 12 → j < 30 → adM i ≠ adC j) {Rel : vSt → vSt → Prop} (hst : Stp_6 Rel) (x3 : Int32) (hi1 : vp_in (x3 + 1) L) (hi2 : vp_in (x3 + 2) L) (hi3 : vp_in (x3 + 3) L) (σ τ : vSt) (hRel : Rel σ τ) (kk : ∀ (σ τ : vSt) (H : Heap) (locs : List Loc) (ls : Array Slot), Rel σ τ → PW K 30 adC (cC K adC) (fun q : Nat => s.heap.size ≤ q) s.heap σ H locs → PW K 12 adM (cM K adM) (fun q : Nat => s.heap.size ≤ q) s.heap τ H locs → lv_has ls 4 [(0, .ref b), (1, .ref (adC 8)), (2, .ref (adM 0)), (3, .int x3)] → W p l e room_1 s m #[Value.ref b] below meth c H locs 42 3498 (lw_Z below #[Value.ref b] s) (F0 m 629 ls [])) (H : Heap) (locs : List Loc) (ls : Array Slot) (hw : PW K 30 adC (cC K adC) (fun q : Nat => s.heap.size ≤ q) s.heap σ H locs) (hw2 : PW K 12 adM (cM K adM) (fun q : Nat => s.heap.size ≤ q) s.heap τ H locs) (hl : lv_has ls 4 [(0, .ref b), (1, .ref (adC 8)), (2, .ref (adM 0)), (3, .int x3)]) : W p l e room_1 s m #[Value.ref b] below meth c H locs 42 3498 (lw_Z below #[Value.ref b] s) (F0 m 264 ls []) := by
  obtain ⟨hx, hb, hr, hml, hown, hts, hX, hbl, hlocks, hgv⟩ := C0
  have hbA : ¬ (fun q : Nat => s.heap.size ≤ q) b := Nat.not_le.mpr hbl
  obtain ⟨r, σ', τ', h1, h2, hR⟩ := hst σ τ (xs (x3 + 1).toNatClampNeg) (xs (x3 + 2).toNatClampNeg) (xs (x3 + 3).toNatClampNeg) hRel
  refine lv_aload_n hx hb dL_law_264 rfl (lv_at hl 1 rfl) ?_
  refine kL_i (As := []) (rest := []) (q := 8) EC1 hw hw2 hdj (c_X6_wipe l K adC hIC  σ h1) mi_X6_wipe mv_X6_wipe ml_L_40 (by decide) rfl rfl rfl ⟨⟨Nat.le_of_ble_eq_true rfl, Nat.le_of_ble_eq_true rfl⟩, rfl, rfl⟩ ⟨Nat.le_of_ble_eq_true rfl, Nat.le_of_ble_eq_true rfl⟩ hl.1 rfl (Nat.le_of_ble_eq_true rfl) dL_law_265 (fun H locs hw hw2 => ?_)
  refine lv_aload_n hx hb dL_law_268 rfl (lv_at hl 2 rfl) ?_
  refine kL_i (As := []) (rest := [.int r]) (q := 0) EC2 hw2 hw (fun i j h5 h6 h7 => hdj j i h6 h5 h7.symm) (c_X7_wipe l K adM hIM  τ h2) mi_X7_wipe mv_X7_wipe ml_L_43 (by decide) rfl rfl rfl ⟨⟨Nat.le_of_ble_eq_true rfl, Nat.le_of_ble_eq_true rfl⟩, rfl, rfl⟩ ⟨Nat.le_of_ble_eq_true rfl, Nat.le_of_ble_eq_true rfl⟩ hl.1 rfl (Nat.le_of_ble_eq_true rfl) dL_law_269 (fun H locs hw2 hw => ?_)
  refine lv_icmp_eq (tgt := 629) hx hb dL_law_272 (by decide) (fun c9 => ?_) (fun c9 => absurd rfl c9)
  exact kk _ _ H locs ls hR hw hw2 hl
set_option maxHeartbeats 4000000 in
set_option maxRecDepth 100000 in
theorem law_case_7 {p : Program} {l : Launch} {e : Env} {s : State} {m : MethodId} {below : List Frame} {meth : Method} {c : Code} {b L : Nat} {xs : Nat → Int32} (hL : L ≤ 2048) (C0 : lw_At p s m meth c b L xs) {K : vK} {adC adM : Nat → Nat} (EC1 : EC p s m #[Value.ref b] c code 4 gtbl R_law K 30 adC (cC K adC) (fun q : Nat => s.heap.size ≤ q)) (EC2 : EC p s m #[Value.ref b] c code 4 gtbl R_law K 12 adM (cM K adM) (fun q : Nat => s.heap.size ≤ q)) (hIC : adInj 30 adC) (hIM : adInj 12 adM) (hdj : ∀ i j, i < 12 → j < 30 → adM i ≠ adC j) {Rel : vSt → vSt → Prop} (hst : Stp_7 Rel) (x3 : Int32) (hi1 : vp_in (x3 + 1) L) (hi2 : vp_in (x3 + 2) L) (hi3 : vp_in (x3 + 3) L) (σ τ : vSt) (hRel : Rel σ τ) (kk : ∀ (σ τ : vSt) (H : Heap) (locs : List Loc) (ls : Array Slot), Rel σ τ → PW K 30 adC (cC K adC) (fun q : Nat => s.heap.size ≤ q) s.heap σ H locs → PW K 12 adM (cM K adM) (fun q : Nat => s.heap.size ≤ q) s.heap τ H locs → lv_has ls 4 [(0, .ref b), (1, .ref (adC 8)), (2, .ref (adM 0)), (3, .int x3)] → W p l e room_1 s m #[Value.ref b] below meth c H locs 42 3498 (lw_Z below #[Value.ref b] s) (F0 m 629 ls [])) (H : Heap) (locs : List Loc) (ls : Array Slot) (hw : PW K 30 adC (cC K adC) (fun q : Nat => s.heap.size ≤ q) s.heap σ H locs) (hw2 : PW K 12 adM (cM K adM) (fun q : Nat => s.heap.size ≤ q) s.heap τ H locs) (hl : lv_has ls 4 [(0, .ref b), (1, .ref (adC 8)), (2, .ref (adM 0)), (3, .int x3)]) : W p l e room_1 s m #[Value.ref b] below meth c H locs 42 3498 (lw_Z below #[Value.ref b] s) (F0 m 277 ls []) := by
  obtain ⟨hx, hb, hr, hml, hown, hts, hX, hbl, hlocks, hgv⟩ := C0
  have hbA : ¬ (fun q : Nat => s.heap.size ≤ q) b := Nat.not_le.mpr hbl
  obtain ⟨r, σ', τ', h1, h2, hR⟩ := hst σ τ (xs (x3 + 1).toNatClampNeg) (xs (x3 + 2).toNatClampNeg) (xs (x3 + 3).toNatClampNeg) hRel
  refine lv_aload_n hx hb dL_law_277 rfl (lv_at hl 1 rfl) ?_
  refine kL_i (As := []) (rest := []) (q := 8) EC1 hw hw2 hdj (c_X6_deduce l K adC hIC  σ h1) mi_X6_deduce mv_X6_deduce ml_L_44 (by decide) rfl rfl rfl ⟨⟨Nat.le_of_ble_eq_true rfl, Nat.le_of_ble_eq_true rfl⟩, rfl, rfl⟩ ⟨Nat.le_of_ble_eq_true rfl, Nat.le_of_ble_eq_true rfl⟩ hl.1 rfl (Nat.le_of_ble_eq_true rfl) dL_law_278 (fun H locs hw hw2 => ?_)
  refine lv_aload_n hx hb dL_law_281 rfl (lv_at hl 2 rfl) ?_
  refine kL_i (As := []) (rest := [.int r]) (q := 0) EC2 hw2 hw (fun i j h5 h6 h7 => hdj j i h6 h5 h7.symm) (c_X7_deduce l K adM hIM  τ h2) mi_X7_deduce mv_X7_deduce ml_L_47 (by decide) rfl rfl rfl ⟨⟨Nat.le_of_ble_eq_true rfl, Nat.le_of_ble_eq_true rfl⟩, rfl, rfl⟩ ⟨Nat.le_of_ble_eq_true rfl, Nat.le_of_ble_eq_true rfl⟩ hl.1 rfl (Nat.le_of_ble_eq_true rfl) dL_law_282 (fun H locs hw2 hw => ?_)
  refine lv_icmp_eq (tgt := 629) hx hb dL_law_285 (by decide) (fun c9 => ?_) (fun c9 => absurd rfl c9)
  exact kk _ _ H locs ls hR hw hw2 hl
set_option maxHeartbeats 4000000 in
set_option maxRecDepth 100000 in
theorem law_case_8 {p : Program} {l : Launch} {e : Env} {s : State} {m : MethodId} {below : List Frame} {meth : Method} {c : Code} {b L : Nat} {xs : Nat → Int32} (hL : L ≤ 2048) (C0 : lw_At p s m meth c b L xs) {K : vK} {adC adM : Nat → Nat} (EC1 : EC p s m #[Value.ref b] c code 4 gtbl R_law K 30 adC (cC K adC) (fun q : Nat => s.heap.size ≤ q)) (EC2 : EC p s m #[Value.ref b] c code 4 gtbl R_law K 12 adM (cM K adM) (fun q : Nat => s.heap.size ≤ q)) (hIC : adInj 30 adC) (hIM : adInj 12 adM) (hdj : ∀ i j, i < 12 → j < 30 → adM i ≠ adC j) {Rel : vSt → vSt → Prop} (hst : Stp_8 Rel) (x3 : Int32) (hi1 : vp_in (x3 + 1) L) (hi2 : vp_in (x3 + 2) L) (hi3 : vp_in (x3 + 3) L) (σ τ : vSt) (hRel : Rel σ τ) (kk : ∀ (σ τ : vSt) (H : Heap) (locs : List Loc) (ls : Array Slot), Rel σ τ → PW K 30 adC (cC K adC) (fun q : Nat => s.heap.size ≤ q) s.heap σ H locs → PW K 12 adM (cM K adM) (fun q : Nat => s.heap.size ≤ q) s.heap τ H locs → lv_has ls 4 [(0, .ref b), (1, .ref (adC 8)), (2, .ref (adM 0)), (3, .int x3)] → W p l e room_1 s m #[Value.ref b] below meth c H locs 42 3498 (lw_Z below #[Value.ref b] s) (F0 m 629 ls [])) (H : Heap) (locs : List Loc) (ls : Array Slot) (hw : PW K 30 adC (cC K adC) (fun q : Nat => s.heap.size ≤ q) s.heap σ H locs) (hw2 : PW K 12 adM (cM K adM) (fun q : Nat => s.heap.size ≤ q) s.heap τ H locs) (hl : lv_has ls 4 [(0, .ref b), (1, .ref (adC 8)), (2, .ref (adM 0)), (3, .int x3)]) : W p l e room_1 s m #[Value.ref b] below meth c H locs 42 3498 (lw_Z below #[Value.ref b] s) (F0 m 290 ls []) := by
  obtain ⟨hx, hb, hr, hml, hown, hts, hX, hbl, hlocks, hgv⟩ := C0
  have hbA : ¬ (fun q : Nat => s.heap.size ≤ q) b := Nat.not_le.mpr hbl
  obtain ⟨r, σ', τ', h1, h2, hR⟩ := hst σ τ (xs (x3 + 1).toNatClampNeg) (xs (x3 + 2).toNatClampNeg) (xs (x3 + 3).toNatClampNeg) hRel
  refine lv_aload_n hx hb dL_law_290 rfl (lv_at hl 1 rfl) ?_
  refine lv_aload_n hx hb dL_law_291 rfl (lv_at hl 0 rfl) ?_
  refine lv_iload_n hx hb dL_law_292 rfl (lv_at hl 3 rfl) ?_
  refine lv_iconst (v := 1) hx hb dL_law_293 (by decide) ?_
  refine lv_iadd hx hb dL_law_294 ?_
  refine va_sld hx hb hX hbl hbA hw.2 hi1 dL_law_295 ?_
  refine kL_i (As := [.int (xs (x3 + 1).toNatClampNeg)]) (rest := []) (q := 8) EC1 hw hw2 hdj (c_X6_deduceAll l K adC hIC (xs (x3 + 1).toNatClampNeg) σ h1) mi_X6_deduceAll mv_X6_deduceAll ml_L_48 (by decide) rfl rfl rfl ⟨⟨Nat.le_of_ble_eq_true rfl, Nat.le_of_ble_eq_true rfl⟩, rfl, rfl⟩ ⟨Nat.le_of_ble_eq_true rfl, Nat.le_of_ble_eq_true rfl⟩ hl.1 rfl (Nat.le_of_ble_eq_true rfl) dL_law_296 (fun H locs hw hw2 => ?_)
  refine lv_aload_n hx hb dL_law_299 rfl (lv_at hl 2 rfl) ?_
  refine lv_aload_n hx hb dL_law_300 rfl (lv_at hl 0 rfl) ?_
  refine lv_iload_n hx hb dL_law_301 rfl (lv_at hl 3 rfl) ?_
  refine lv_iconst (v := 1) hx hb dL_law_302 (by decide) ?_
  refine lv_iadd hx hb dL_law_303 ?_
  refine va_sld hx hb hX hbl hbA hw.2 hi1 dL_law_304 ?_
  refine kL_i (As := [.int (xs (x3 + 1).toNatClampNeg)]) (rest := [.int r]) (q := 0) EC2 hw2 hw (fun i j h5 h6 h7 => hdj j i h6 h5 h7.symm) (c_X7_deduceAll l K adM hIM (xs (x3 + 1).toNatClampNeg) τ h2) mi_X7_deduceAll mv_X7_deduceAll ml_L_51 (by decide) rfl rfl rfl ⟨⟨Nat.le_of_ble_eq_true rfl, Nat.le_of_ble_eq_true rfl⟩, rfl, rfl⟩ ⟨Nat.le_of_ble_eq_true rfl, Nat.le_of_ble_eq_true rfl⟩ hl.1 rfl (Nat.le_of_ble_eq_true rfl) dL_law_305 (fun H locs hw2 hw => ?_)
  refine lv_icmp_eq (tgt := 629) hx hb dL_law_308 (by decide) (fun c9 => ?_) (fun c9 => absurd rfl c9)
  exact kk _ _ H locs ls hR hw hw2 hl
set_option maxHeartbeats 4000000 in
set_option maxRecDepth 100000 in
theorem law_case_9 {p : Program} {l : Launch} {e : Env} {s : State} {m : MethodId} {below : List Frame} {meth : Method} {c : Code} {b L : Nat} {xs : Nat → Int32} (hL : L ≤ 2048) (C0 : lw_At p s m meth c b L xs) {K : vK} {adC adM : Nat → Nat} (EC1 : EC p s m #[Value.ref b] c code 4 gtbl R_law K 30 adC (cC K adC) (fun q : Nat => s.heap.size ≤ q)) (EC2 : EC p s m #[Value.ref b] c code 4 gtbl R_law K 12 adM (cM K adM) (fun q : Nat => s.heap.size ≤ q)) (hIC : adInj 30 adC) (hIM : adInj 12 adM) (hdj : ∀ i j, i < 12 → j < 30 → adM i ≠ adC j) {Rel : vSt → vSt → Prop} (hst : Stp_9 Rel) (x3 : Int32) (hi1 : vp_in (x3 + 1) L) (hi2 : vp_in (x3 + 2) L) (hi3 : vp_in (x3 + 3) L) (σ τ : vSt) (hRel : Rel σ τ) (kk : ∀ (σ τ : vSt) (H : Heap) (locs : List Loc) (ls : Array Slot), Rel σ τ → PW K 30 adC (cC K adC) (fun q : Nat => s.heap.size ≤ q) s.heap σ H locs → PW K 12 adM (cM K adM) (fun q : Nat => s.heap.size ≤ q) s.heap τ H locs → lv_has ls 4 [(0, .ref b), (1, .ref (adC 8)), (2, .ref (adM 0)), (3, .int x3)] → W p l e room_1 s m #[Value.ref b] below meth c H locs 42 3498 (lw_Z below #[Value.ref b] s) (F0 m 629 ls [])) (H : Heap) (locs : List Loc) (ls : Array Slot) (hw : PW K 30 adC (cC K adC) (fun q : Nat => s.heap.size ≤ q) s.heap σ H locs) (hw2 : PW K 12 adM (cM K adM) (fun q : Nat => s.heap.size ≤ q) s.heap τ H locs) (hl : lv_has ls 4 [(0, .ref b), (1, .ref (adC 8)), (2, .ref (adM 0)), (3, .int x3)]) : W p l e room_1 s m #[Value.ref b] below meth c H locs 42 3498 (lw_Z below #[Value.ref b] s) (F0 m 313 ls []) := by
  obtain ⟨hx, hb, hr, hml, hown, hts, hX, hbl, hlocks, hgv⟩ := C0
  have hbA : ¬ (fun q : Nat => s.heap.size ≤ q) b := Nat.not_le.mpr hbl
  obtain ⟨r, σ', τ', h1, h2, hR⟩ := hst σ τ (xs (x3 + 1).toNatClampNeg) (xs (x3 + 2).toNatClampNeg) (xs (x3 + 3).toNatClampNeg) hRel
  refine lv_aload_n hx hb dL_law_313 rfl (lv_at hl 1 rfl) ?_
  refine kL_i (As := []) (rest := []) (q := 8) EC1 hw hw2 hdj (c_X6_undo l K adC hIC  σ h1) mi_X6_undo mv_X6_undo ml_L_52 (by decide) rfl rfl rfl ⟨⟨Nat.le_of_ble_eq_true rfl, Nat.le_of_ble_eq_true rfl⟩, rfl, rfl⟩ ⟨Nat.le_of_ble_eq_true rfl, Nat.le_of_ble_eq_true rfl⟩ hl.1 rfl (Nat.le_of_ble_eq_true rfl) dL_law_314 (fun H locs hw hw2 => ?_)
  refine lv_aload_n hx hb dL_law_317 rfl (lv_at hl 2 rfl) ?_
  refine kL_i (As := []) (rest := [.int r]) (q := 0) EC2 hw2 hw (fun i j h5 h6 h7 => hdj j i h6 h5 h7.symm) (c_X7_undo l K adM hIM  τ h2) mi_X7_undo mv_X7_undo ml_L_55 (by decide) rfl rfl rfl ⟨⟨Nat.le_of_ble_eq_true rfl, Nat.le_of_ble_eq_true rfl⟩, rfl, rfl⟩ ⟨Nat.le_of_ble_eq_true rfl, Nat.le_of_ble_eq_true rfl⟩ hl.1 rfl (Nat.le_of_ble_eq_true rfl) dL_law_318 (fun H locs hw2 hw => ?_)
  refine lv_icmp_eq (tgt := 629) hx hb dL_law_321 (by decide) (fun c9 => ?_) (fun c9 => absurd rfl c9)
  exact kk _ _ H locs ls hR hw hw2 hl
set_option maxHeartbeats 4000000 in
set_option maxRecDepth 100000 in
theorem law_case_10 {p : Program} {l : Launch} {e : Env} {s : State} {m : MethodId} {below : List Frame} {meth : Method} {c : Code} {b L : Nat} {xs : Nat → Int32} (hL : L ≤ 2048) (C0 : lw_At p s m meth c b L xs) {K : vK} {adC adM : Nat → Nat} (EC1 : EC p s m #[Value.ref b] c code 4 gtbl R_law K 30 adC (cC K adC) (fun q : Nat => s.heap.size ≤ q)) (EC2 : EC p s m #[Value.ref b] c code 4 gtbl R_law K 12 adM (cM K adM) (fun q : Nat => s.heap.size ≤ q)) (hIC : adInj 30 adC) (hIM : adInj 12 adM) (hdj : ∀ i j, i < 12 → j < 30 → adM i ≠ adC j) {Rel : vSt → vSt → Prop} (hst : Stp_10 Rel) (x3 : Int32) (hi1 : vp_in (x3 + 1) L) (hi2 : vp_in (x3 + 2) L) (hi3 : vp_in (x3 + 3) L) (σ τ : vSt) (hRel : Rel σ τ) (kk : ∀ (σ τ : vSt) (H : Heap) (locs : List Loc) (ls : Array Slot), Rel σ τ → PW K 30 adC (cC K adC) (fun q : Nat => s.heap.size ≤ q) s.heap σ H locs → PW K 12 adM (cM K adM) (fun q : Nat => s.heap.size ≤ q) s.heap τ H locs → lv_has ls 4 [(0, .ref b), (1, .ref (adC 8)), (2, .ref (adM 0)), (3, .int x3)] → W p l e room_1 s m #[Value.ref b] below meth c H locs 42 3498 (lw_Z below #[Value.ref b] s) (F0 m 629 ls [])) (H : Heap) (locs : List Loc) (ls : Array Slot) (hw : PW K 30 adC (cC K adC) (fun q : Nat => s.heap.size ≤ q) s.heap σ H locs) (hw2 : PW K 12 adM (cM K adM) (fun q : Nat => s.heap.size ≤ q) s.heap τ H locs) (hl : lv_has ls 4 [(0, .ref b), (1, .ref (adC 8)), (2, .ref (adM 0)), (3, .int x3)]) : W p l e room_1 s m #[Value.ref b] below meth c H locs 42 3498 (lw_Z below #[Value.ref b] s) (F0 m 326 ls []) := by
  obtain ⟨hx, hb, hr, hml, hown, hts, hX, hbl, hlocks, hgv⟩ := C0
  have hbA : ¬ (fun q : Nat => s.heap.size ≤ q) b := Nat.not_le.mpr hbl
  obtain ⟨r, h1, h2, hR⟩ := hst σ τ (xs (x3 + 1).toNatClampNeg) (xs (x3 + 2).toNatClampNeg) (xs (x3 + 3).toNatClampNeg) hRel
  refine lv_aload_n hx hb dL_law_326 rfl (lv_at hl 1 rfl) ?_
  refine lv_aload_n hx hb dL_law_327 rfl (lv_at hl 0 rfl) ?_
  refine lv_iload_n hx hb dL_law_328 rfl (lv_at hl 3 rfl) ?_
  refine lv_iconst (v := 1) hx hb dL_law_329 (by decide) ?_
  refine lv_iadd hx hb dL_law_330 ?_
  refine va_sld hx hb hX hbl hbA hw.2 hi1 dL_law_331 ?_
  refine kL_i (As := [.int (xs (x3 + 1).toNatClampNeg)]) (rest := []) (q := 8) EC1 hw hw2 hdj (c_X6_countOf l K adC hIC (xs (x3 + 1).toNatClampNeg) σ h1) mi_X6_countOf mv_X6_countOf ml_L_56 (by decide) rfl rfl rfl ⟨⟨Nat.le_of_ble_eq_true rfl, Nat.le_of_ble_eq_true rfl⟩, rfl, rfl⟩ ⟨Nat.le_of_ble_eq_true rfl, Nat.le_of_ble_eq_true rfl⟩ hl.1 rfl (Nat.le_of_ble_eq_true rfl) dL_law_332 (fun H locs hw hw2 => ?_)
  refine lv_aload_n hx hb dL_law_335 rfl (lv_at hl 2 rfl) ?_
  refine lv_aload_n hx hb dL_law_336 rfl (lv_at hl 0 rfl) ?_
  refine lv_iload_n hx hb dL_law_337 rfl (lv_at hl 3 rfl) ?_
  refine lv_iconst (v := 1) hx hb dL_law_338 (by decide) ?_
  refine lv_iadd hx hb dL_law_339 ?_
  refine va_sld hx hb hX hbl hbA hw.2 hi1 dL_law_340 ?_
  refine kL_i (As := [.int (xs (x3 + 1).toNatClampNeg)]) (rest := [.int r]) (q := 0) EC2 hw2 hw (fun i j h5 h6 h7 => hdj j i h6 h5 h7.symm) (c_X7_countOf l K adM hIM (xs (x3 + 1).toNatClampNeg) τ h2) mi_X7_countOf mv_X7_countOf ml_L_59 (by decide) rfl rfl rfl ⟨⟨Nat.le_of_ble_eq_true rfl, Nat.le_of_ble_eq_true rfl⟩, rfl, rfl⟩ ⟨Nat.le_of_ble_eq_true rfl, Nat.le_of_ble_eq_true rfl⟩ hl.1 rfl (Nat.le_of_ble_eq_true rfl) dL_law_341 (fun H locs hw2 hw => ?_)
  refine lv_icmp_eq (tgt := 629) hx hb dL_law_344 (by decide) (fun c9 => ?_) (fun c9 => absurd rfl c9)
  exact kk _ _ H locs ls hR hw hw2 hl
set_option maxHeartbeats 4000000 in
set_option maxRecDepth 100000 in
theorem law_case_11 {p : Program} {l : Launch} {e : Env} {s : State} {m : MethodId} {below : List Frame} {meth : Method} {c : Code} {b L : Nat} {xs : Nat → Int32} (hL : L ≤ 2048) (C0 : lw_At p s m meth c b L xs) {K : vK} {adC adM : Nat → Nat} (EC1 : EC p s m #[Value.ref b] c code 4 gtbl R_law K 30 adC (cC K adC) (fun q : Nat => s.heap.size ≤ q)) (EC2 : EC p s m #[Value.ref b] c code 4 gtbl R_law K 12 adM (cM K adM) (fun q : Nat => s.heap.size ≤ q)) (hIC : adInj 30 adC) (hIM : adInj 12 adM) (hdj : ∀ i j, i < 12 → j < 30 → adM i ≠ adC j) {Rel : vSt → vSt → Prop} (hst : Stp_11 Rel) (x3 : Int32) (hi1 : vp_in (x3 + 1) L) (hi2 : vp_in (x3 + 2) L) (hi3 : vp_in (x3 + 3) L) (σ τ : vSt) (hRel : Rel σ τ) (kk : ∀ (σ τ : vSt) (H : Heap) (locs : List Loc) (ls : Array Slot), Rel σ τ → PW K 30 adC (cC K adC) (fun q : Nat => s.heap.size ≤ q) s.heap σ H locs → PW K 12 adM (cM K adM) (fun q : Nat => s.heap.size ≤ q) s.heap τ H locs → lv_has ls 4 [(0, .ref b), (1, .ref (adC 8)), (2, .ref (adM 0)), (3, .int x3)] → W p l e room_1 s m #[Value.ref b] below meth c H locs 42 3498 (lw_Z below #[Value.ref b] s) (F0 m 629 ls [])) (H : Heap) (locs : List Loc) (ls : Array Slot) (hw : PW K 30 adC (cC K adC) (fun q : Nat => s.heap.size ≤ q) s.heap σ H locs) (hw2 : PW K 12 adM (cM K adM) (fun q : Nat => s.heap.size ≤ q) s.heap τ H locs) (hl : lv_has ls 4 [(0, .ref b), (1, .ref (adC 8)), (2, .ref (adM 0)), (3, .int x3)]) : W p l e room_1 s m #[Value.ref b] below meth c H locs 42 3498 (lw_Z below #[Value.ref b] s) (F0 m 349 ls []) := by
  obtain ⟨hx, hb, hr, hml, hown, hts, hX, hbl, hlocks, hgv⟩ := C0
  have hbA : ¬ (fun q : Nat => s.heap.size ≤ q) b := Nat.not_le.mpr hbl
  obtain ⟨r, h1, h2, hR⟩ := hst σ τ (xs (x3 + 1).toNatClampNeg) (xs (x3 + 2).toNatClampNeg) (xs (x3 + 3).toNatClampNeg) hRel
  refine lv_aload_n hx hb dL_law_349 rfl (lv_at hl 1 rfl) ?_
  refine lv_aload_n hx hb dL_law_350 rfl (lv_at hl 0 rfl) ?_
  refine lv_iload_n hx hb dL_law_351 rfl (lv_at hl 3 rfl) ?_
  refine lv_iconst (v := 1) hx hb dL_law_352 (by decide) ?_
  refine lv_iadd hx hb dL_law_353 ?_
  refine va_sld hx hb hX hbl hbA hw.2 hi1 dL_law_354 ?_
  refine kL_i (As := [.int (xs (x3 + 1).toNatClampNeg)]) (rest := []) (q := 8) EC1 hw hw2 hdj (c_X6_edge l K adC hIC (xs (x3 + 1).toNatClampNeg) σ h1) mi_X6_edge mv_X6_edge ml_L_60 (by decide) rfl rfl rfl ⟨⟨Nat.le_of_ble_eq_true rfl, Nat.le_of_ble_eq_true rfl⟩, rfl, rfl⟩ ⟨Nat.le_of_ble_eq_true rfl, Nat.le_of_ble_eq_true rfl⟩ hl.1 rfl (Nat.le_of_ble_eq_true rfl) dL_law_355 (fun H locs hw hw2 => ?_)
  refine lv_aload_n hx hb dL_law_358 rfl (lv_at hl 2 rfl) ?_
  refine lv_aload_n hx hb dL_law_359 rfl (lv_at hl 0 rfl) ?_
  refine lv_iload_n hx hb dL_law_360 rfl (lv_at hl 3 rfl) ?_
  refine lv_iconst (v := 1) hx hb dL_law_361 (by decide) ?_
  refine lv_iadd hx hb dL_law_362 ?_
  refine va_sld hx hb hX hbl hbA hw.2 hi1 dL_law_363 ?_
  refine kL_i (As := [.int (xs (x3 + 1).toNatClampNeg)]) (rest := [.int r]) (q := 0) EC2 hw2 hw (fun i j h5 h6 h7 => hdj j i h6 h5 h7.symm) (c_X7_edge l K adM hIM (xs (x3 + 1).toNatClampNeg) τ h2) mi_X7_edge mv_X7_edge ml_L_63 (by decide) rfl rfl rfl ⟨⟨Nat.le_of_ble_eq_true rfl, Nat.le_of_ble_eq_true rfl⟩, rfl, rfl⟩ ⟨Nat.le_of_ble_eq_true rfl, Nat.le_of_ble_eq_true rfl⟩ hl.1 rfl (Nat.le_of_ble_eq_true rfl) dL_law_364 (fun H locs hw2 hw => ?_)
  refine lv_icmp_eq (tgt := 629) hx hb dL_law_367 (by decide) (fun c9 => ?_) (fun c9 => absurd rfl c9)
  exact kk _ _ H locs ls hR hw hw2 hl
set_option maxHeartbeats 4000000 in
set_option maxRecDepth 100000 in
theorem law_case_12 {p : Program} {l : Launch} {e : Env} {s : State} {m : MethodId} {below : List Frame} {meth : Method} {c : Code} {b L : Nat} {xs : Nat → Int32} (hL : L ≤ 2048) (C0 : lw_At p s m meth c b L xs) {K : vK} {adC adM : Nat → Nat} (EC1 : EC p s m #[Value.ref b] c code 4 gtbl R_law K 30 adC (cC K adC) (fun q : Nat => s.heap.size ≤ q)) (EC2 : EC p s m #[Value.ref b] c code 4 gtbl R_law K 12 adM (cM K adM) (fun q : Nat => s.heap.size ≤ q)) (hIC : adInj 30 adC) (hIM : adInj 12 adM) (hdj : ∀ i j, i < 12 → j < 30 → adM i ≠ adC j) {Rel : vSt → vSt → Prop} (hst : Stp_12 Rel) (x3 : Int32) (hi1 : vp_in (x3 + 1) L) (hi2 : vp_in (x3 + 2) L) (hi3 : vp_in (x3 + 3) L) (σ τ : vSt) (hRel : Rel σ τ) (kk : ∀ (σ τ : vSt) (H : Heap) (locs : List Loc) (ls : Array Slot), Rel σ τ → PW K 30 adC (cC K adC) (fun q : Nat => s.heap.size ≤ q) s.heap σ H locs → PW K 12 adM (cM K adM) (fun q : Nat => s.heap.size ≤ q) s.heap τ H locs → lv_has ls 4 [(0, .ref b), (1, .ref (adC 8)), (2, .ref (adM 0)), (3, .int x3)] → W p l e room_1 s m #[Value.ref b] below meth c H locs 42 3498 (lw_Z below #[Value.ref b] s) (F0 m 629 ls [])) (H : Heap) (locs : List Loc) (ls : Array Slot) (hw : PW K 30 adC (cC K adC) (fun q : Nat => s.heap.size ≤ q) s.heap σ H locs) (hw2 : PW K 12 adM (cM K adM) (fun q : Nat => s.heap.size ≤ q) s.heap τ H locs) (hl : lv_has ls 4 [(0, .ref b), (1, .ref (adC 8)), (2, .ref (adM 0)), (3, .int x3)]) : W p l e room_1 s m #[Value.ref b] below meth c H locs 42 3498 (lw_Z below #[Value.ref b] s) (F0 m 372 ls []) := by
  obtain ⟨hx, hb, hr, hml, hown, hts, hX, hbl, hlocks, hgv⟩ := C0
  have hbA : ¬ (fun q : Nat => s.heap.size ≤ q) b := Nat.not_le.mpr hbl
  obtain ⟨r, h1, h2, hR⟩ := hst σ τ (xs (x3 + 1).toNatClampNeg) (xs (x3 + 2).toNatClampNeg) (xs (x3 + 3).toNatClampNeg) hRel
  refine lv_aload_n hx hb dL_law_372 rfl (lv_at hl 1 rfl) ?_
  refine lv_aload_n hx hb dL_law_373 rfl (lv_at hl 0 rfl) ?_
  refine lv_iload_n hx hb dL_law_374 rfl (lv_at hl 3 rfl) ?_
  refine lv_iconst (v := 1) hx hb dL_law_375 (by decide) ?_
  refine lv_iadd hx hb dL_law_376 ?_
  refine va_sld hx hb hX hbl hbA hw.2 hi1 dL_law_377 ?_
  refine lv_if_eq (tgt := 385) hx hb dL_law_378 (by decide) (fun c378 => ?_) (fun c378 => ?_)
  · rw [if_pos c378] at h1 h2
    refine lv_iconst (v := 0) hx hb dL_law_385 (by decide) ?_
    refine lv_aload_n hx hb dL_law_386 rfl (lv_at hl 0 rfl) ?_
    refine lv_iload_n hx hb dL_law_387 rfl (lv_at hl 3 rfl) ?_
    refine lv_iconst (v := 2) hx hb dL_law_388 (by decide) ?_
    refine lv_iadd hx hb dL_law_389 ?_
    refine va_sld hx hb hX hbl hbA hw.2 hi2 dL_law_390 ?_
    refine lv_aload_n hx hb dL_law_391 rfl (lv_at hl 0 rfl) ?_
    refine lv_iload_n hx hb dL_law_392 rfl (lv_at hl 3 rfl) ?_
    refine lv_iconst (v := 3) hx hb dL_law_393 (by decide) ?_
    refine lv_iadd hx hb dL_law_394 ?_
    refine va_sld hx hb hX hbl hbA hw.2 hi3 dL_law_395 ?_
    refine kL_i (As := [.int (0 : Int32), .int (xs (x3 + 2).toNatClampNeg), .int (xs (x3 + 3).toNatClampNeg)]) (rest := []) (q := 8) EC1 hw hw2 hdj (c_X6_edgeAt l K adC hIC (0 : Int32) (xs (x3 + 2).toNatClampNeg) (xs (x3 + 3).toNatClampNeg) σ h1) mi_X6_edgeAt mv_X6_edgeAt ml_L_64 (by decide) rfl rfl rfl ⟨⟨Nat.le_of_ble_eq_true rfl, Nat.le_of_ble_eq_true rfl⟩, rfl, rfl⟩ ⟨Nat.le_of_ble_eq_true rfl, Nat.le_of_ble_eq_true rfl⟩ hl.1 rfl (Nat.le_of_ble_eq_true rfl) dL_law_396 (fun H locs hw hw2 => ?_)
    refine lv_aload_n hx hb dL_law_399 rfl (lv_at hl 2 rfl) ?_
    refine lv_aload_n hx hb dL_law_400 rfl (lv_at hl 0 rfl) ?_
    refine lv_iload_n hx hb dL_law_401 rfl (lv_at hl 3 rfl) ?_
    refine lv_iconst (v := 1) hx hb dL_law_402 (by decide) ?_
    refine lv_iadd hx hb dL_law_403 ?_
    refine va_sld hx hb hX hbl hbA hw.2 hi1 dL_law_404 ?_
    refine lv_if_eq (tgt := 412) hx hb dL_law_405 (by decide) (fun c405 => ?_) (fun c405 => ?_)
    · refine lv_iconst (v := 0) hx hb dL_law_412 (by decide) ?_
      refine lv_aload_n hx hb dL_law_413 rfl (lv_at hl 0 rfl) ?_
      refine lv_iload_n hx hb dL_law_414 rfl (lv_at hl 3 rfl) ?_
      refine lv_iconst (v := 2) hx hb dL_law_415 (by decide) ?_
      refine lv_iadd hx hb dL_law_416 ?_
      refine va_sld hx hb hX hbl hbA hw.2 hi2 dL_law_417 ?_
      refine lv_aload_n hx hb dL_law_418 rfl (lv_at hl 0 rfl) ?_
      refine lv_iload_n hx hb dL_law_419 rfl (lv_at hl 3 rfl) ?_
      refine lv_iconst (v := 3) hx hb dL_law_420 (by decide) ?_
      refine lv_iadd hx hb dL_law_421 ?_
      refine va_sld hx hb hX hbl hbA hw.2 hi3 dL_law_422 ?_
      refine kL_i (As := [.int (0 : Int32), .int (xs (x3 + 2).toNatClampNeg), .int (xs (x3 + 3).toNatClampNeg)]) (rest := [.int r]) (q := 0) EC2 hw2 hw (fun i j h5 h6 h7 => hdj j i h6 h5 h7.symm) (c_X7_edgeAt l K adM hIM (0 : Int32) (xs (x3 + 2).toNatClampNeg) (xs (x3 + 3).toNatClampNeg) τ h2) mi_X7_edgeAt mv_X7_edgeAt ml_L_68 (by decide) rfl rfl rfl ⟨⟨Nat.le_of_ble_eq_true rfl, Nat.le_of_ble_eq_true rfl⟩, rfl, rfl⟩ ⟨Nat.le_of_ble_eq_true rfl, Nat.le_of_ble_eq_true rfl⟩ hl.1 rfl (Nat.le_of_ble_eq_true rfl) dL_law_423 (fun H locs hw2 hw => ?_)
      refine lv_icmp_eq (tgt := 629) hx hb dL_law_426 (by decide) (fun c9 => ?_) (fun c9 => absurd rfl c9)
      exact kk _ _ H locs ls hR hw hw2 hl
    · exact absurd c378 c405
  · rw [if_neg c378] at h1 h2
    refine lv_iconst (v := 1) hx hb dL_law_381 (by decide) ?_
    refine lv_goto (tgt := 386) hx hb dL_law_382 (by decide) ?_
    refine lv_aload_n hx hb dL_law_386 rfl (lv_at hl 0 rfl) ?_
    refine lv_iload_n hx hb dL_law_387 rfl (lv_at hl 3 rfl) ?_
    refine lv_iconst (v := 2) hx hb dL_law_388 (by decide) ?_
    refine lv_iadd hx hb dL_law_389 ?_
    refine va_sld hx hb hX hbl hbA hw.2 hi2 dL_law_390 ?_
    refine lv_aload_n hx hb dL_law_391 rfl (lv_at hl 0 rfl) ?_
    refine lv_iload_n hx hb dL_law_392 rfl (lv_at hl 3 rfl) ?_
    refine lv_iconst (v := 3) hx hb dL_law_393 (by decide) ?_
    refine lv_iadd hx hb dL_law_394 ?_
    refine va_sld hx hb hX hbl hbA hw.2 hi3 dL_law_395 ?_
    refine kL_i (As := [.int (1 : Int32), .int (xs (x3 + 2).toNatClampNeg), .int (xs (x3 + 3).toNatClampNeg)]) (rest := []) (q := 8) EC1 hw hw2 hdj (c_X6_edgeAt l K adC hIC (1 : Int32) (xs (x3 + 2).toNatClampNeg) (xs (x3 + 3).toNatClampNeg) σ h1) mi_X6_edgeAt mv_X6_edgeAt ml_L_64 (by decide) rfl rfl rfl ⟨⟨Nat.le_of_ble_eq_true rfl, Nat.le_of_ble_eq_true rfl⟩, rfl, rfl⟩ ⟨Nat.le_of_ble_eq_true rfl, Nat.le_of_ble_eq_true rfl⟩ hl.1 rfl (Nat.le_of_ble_eq_true rfl) dL_law_396 (fun H locs hw hw2 => ?_)
    refine lv_aload_n hx hb dL_law_399 rfl (lv_at hl 2 rfl) ?_
    refine lv_aload_n hx hb dL_law_400 rfl (lv_at hl 0 rfl) ?_
    refine lv_iload_n hx hb dL_law_401 rfl (lv_at hl 3 rfl) ?_
    refine lv_iconst (v := 1) hx hb dL_law_402 (by decide) ?_
    refine lv_iadd hx hb dL_law_403 ?_
    refine va_sld hx hb hX hbl hbA hw.2 hi1 dL_law_404 ?_
    refine lv_if_eq (tgt := 412) hx hb dL_law_405 (by decide) (fun c405 => ?_) (fun c405 => ?_)
    · exact absurd c405 c378
    · refine lv_iconst (v := 1) hx hb dL_law_408 (by decide) ?_
      refine lv_goto (tgt := 413) hx hb dL_law_409 (by decide) ?_
      refine lv_aload_n hx hb dL_law_413 rfl (lv_at hl 0 rfl) ?_
      refine lv_iload_n hx hb dL_law_414 rfl (lv_at hl 3 rfl) ?_
      refine lv_iconst (v := 2) hx hb dL_law_415 (by decide) ?_
      refine lv_iadd hx hb dL_law_416 ?_
      refine va_sld hx hb hX hbl hbA hw.2 hi2 dL_law_417 ?_
      refine lv_aload_n hx hb dL_law_418 rfl (lv_at hl 0 rfl) ?_
      refine lv_iload_n hx hb dL_law_419 rfl (lv_at hl 3 rfl) ?_
      refine lv_iconst (v := 3) hx hb dL_law_420 (by decide) ?_
      refine lv_iadd hx hb dL_law_421 ?_
      refine va_sld hx hb hX hbl hbA hw.2 hi3 dL_law_422 ?_
      refine kL_i (As := [.int (1 : Int32), .int (xs (x3 + 2).toNatClampNeg), .int (xs (x3 + 3).toNatClampNeg)]) (rest := [.int r]) (q := 0) EC2 hw2 hw (fun i j h5 h6 h7 => hdj j i h6 h5 h7.symm) (c_X7_edgeAt l K adM hIM (1 : Int32) (xs (x3 + 2).toNatClampNeg) (xs (x3 + 3).toNatClampNeg) τ h2) mi_X7_edgeAt mv_X7_edgeAt ml_L_68 (by decide) rfl rfl rfl ⟨⟨Nat.le_of_ble_eq_true rfl, Nat.le_of_ble_eq_true rfl⟩, rfl, rfl⟩ ⟨Nat.le_of_ble_eq_true rfl, Nat.le_of_ble_eq_true rfl⟩ hl.1 rfl (Nat.le_of_ble_eq_true rfl) dL_law_423 (fun H locs hw2 hw => ?_)
      refine lv_icmp_eq (tgt := 629) hx hb dL_law_426 (by decide) (fun c9 => ?_) (fun c9 => absurd rfl c9)
      exact kk _ _ H locs ls hR hw hw2 hl
set_option maxHeartbeats 4000000 in
set_option maxRecDepth 100000 in
theorem law_case_13 {p : Program} {l : Launch} {e : Env} {s : State} {m : MethodId} {below : List Frame} {meth : Method} {c : Code} {b L : Nat} {xs : Nat → Int32} (hL : L ≤ 2048) (C0 : lw_At p s m meth c b L xs) {K : vK} {adC adM : Nat → Nat} (EC1 : EC p s m #[Value.ref b] c code 4 gtbl R_law K 30 adC (cC K adC) (fun q : Nat => s.heap.size ≤ q)) (EC2 : EC p s m #[Value.ref b] c code 4 gtbl R_law K 12 adM (cM K adM) (fun q : Nat => s.heap.size ≤ q)) (hIC : adInj 30 adC) (hIM : adInj 12 adM) (hdj : ∀ i j, i < 12 → j < 30 → adM i ≠ adC j) {Rel : vSt → vSt → Prop} (hst : Stp_13 Rel) (x3 : Int32) (hi1 : vp_in (x3 + 1) L) (hi2 : vp_in (x3 + 2) L) (hi3 : vp_in (x3 + 3) L) (σ τ : vSt) (hRel : Rel σ τ) (kk : ∀ (σ τ : vSt) (H : Heap) (locs : List Loc) (ls : Array Slot), Rel σ τ → PW K 30 adC (cC K adC) (fun q : Nat => s.heap.size ≤ q) s.heap σ H locs → PW K 12 adM (cM K adM) (fun q : Nat => s.heap.size ≤ q) s.heap τ H locs → lv_has ls 4 [(0, .ref b), (1, .ref (adC 8)), (2, .ref (adM 0)), (3, .int x3)] → W p l e room_1 s m #[Value.ref b] below meth c H locs 42 3498 (lw_Z below #[Value.ref b] s) (F0 m 629 ls [])) (H : Heap) (locs : List Loc) (ls : Array Slot) (hw : PW K 30 adC (cC K adC) (fun q : Nat => s.heap.size ≤ q) s.heap σ H locs) (hw2 : PW K 12 adM (cM K adM) (fun q : Nat => s.heap.size ≤ q) s.heap τ H locs) (hl : lv_has ls 4 [(0, .ref b), (1, .ref (adC 8)), (2, .ref (adM 0)), (3, .int x3)]) : W p l e room_1 s m #[Value.ref b] below meth c H locs 42 3498 (lw_Z below #[Value.ref b] s) (F0 m 431 ls []) := by
  obtain ⟨hx, hb, hr, hml, hown, hts, hX, hbl, hlocks, hgv⟩ := C0
  have hbA : ¬ (fun q : Nat => s.heap.size ≤ q) b := Nat.not_le.mpr hbl
  obtain ⟨r, τ', h1, h2, hR⟩ := hst σ τ (xs (x3 + 1).toNatClampNeg) (xs (x3 + 2).toNatClampNeg) (xs (x3 + 3).toNatClampNeg) hRel
  refine lv_aload_n hx hb dL_law_431 rfl (lv_at hl 1 rfl) ?_
  refine lv_aload_n hx hb dL_law_432 rfl (lv_at hl 0 rfl) ?_
  refine lv_iload_n hx hb dL_law_433 rfl (lv_at hl 3 rfl) ?_
  refine lv_iconst (v := 1) hx hb dL_law_434 (by decide) ?_
  refine lv_iadd hx hb dL_law_435 ?_
  refine va_sld hx hb hX hbl hbA hw.2 hi1 dL_law_436 ?_
  refine kL_i (As := [.int (xs (x3 + 1).toNatClampNeg)]) (rest := []) (q := 8) EC1 hw hw2 hdj (c_X6_misfit l K adC hIC (xs (x3 + 1).toNatClampNeg) σ h1) mi_X6_misfit mv_X6_misfit ml_L_69 (by decide) rfl rfl rfl ⟨⟨Nat.le_of_ble_eq_true rfl, Nat.le_of_ble_eq_true rfl⟩, rfl, rfl⟩ ⟨Nat.le_of_ble_eq_true rfl, Nat.le_of_ble_eq_true rfl⟩ hl.1 rfl (Nat.le_of_ble_eq_true rfl) dL_law_437 (fun H locs hw hw2 => ?_)
  refine lv_aload_n hx hb dL_law_440 rfl (lv_at hl 2 rfl) ?_
  refine lv_aload_n hx hb dL_law_441 rfl (lv_at hl 0 rfl) ?_
  refine lv_iload_n hx hb dL_law_442 rfl (lv_at hl 3 rfl) ?_
  refine lv_iconst (v := 1) hx hb dL_law_443 (by decide) ?_
  refine lv_iadd hx hb dL_law_444 ?_
  refine va_sld hx hb hX hbl hbA hw.2 hi1 dL_law_445 ?_
  refine kL_i (As := [.int (xs (x3 + 1).toNatClampNeg)]) (rest := [.int r]) (q := 0) EC2 hw2 hw (fun i j h5 h6 h7 => hdj j i h6 h5 h7.symm) (c_X7_misfit l K adM hIM (xs (x3 + 1).toNatClampNeg) τ h2) mi_X7_misfit mv_X7_misfit ml_L_72 (by decide) rfl rfl rfl ⟨⟨Nat.le_of_ble_eq_true rfl, Nat.le_of_ble_eq_true rfl⟩, rfl, rfl⟩ ⟨Nat.le_of_ble_eq_true rfl, Nat.le_of_ble_eq_true rfl⟩ hl.1 rfl (Nat.le_of_ble_eq_true rfl) dL_law_446 (fun H locs hw2 hw => ?_)
  refine lv_icmp_eq (tgt := 629) hx hb dL_law_449 (by decide) (fun c9 => ?_) (fun c9 => absurd rfl c9)
  exact kk _ _ H locs ls hR hw hw2 hl
set_option maxHeartbeats 4000000 in
set_option maxRecDepth 100000 in
theorem law_case_14 {p : Program} {l : Launch} {e : Env} {s : State} {m : MethodId} {below : List Frame} {meth : Method} {c : Code} {b L : Nat} {xs : Nat → Int32} (hL : L ≤ 2048) (C0 : lw_At p s m meth c b L xs) {K : vK} {adC adM : Nat → Nat} (EC1 : EC p s m #[Value.ref b] c code 4 gtbl R_law K 30 adC (cC K adC) (fun q : Nat => s.heap.size ≤ q)) (EC2 : EC p s m #[Value.ref b] c code 4 gtbl R_law K 12 adM (cM K adM) (fun q : Nat => s.heap.size ≤ q)) (hIC : adInj 30 adC) (hIM : adInj 12 adM) (hdj : ∀ i j, i < 12 → j < 30 → adM i ≠ adC j) {Rel : vSt → vSt → Prop} (hst : Stp_14 Rel) (x3 : Int32) (hi1 : vp_in (x3 + 1) L) (hi2 : vp_in (x3 + 2) L) (hi3 : vp_in (x3 + 3) L) (σ τ : vSt) (hRel : Rel σ τ) (kk : ∀ (σ τ : vSt) (H : Heap) (locs : List Loc) (ls : Array Slot), Rel σ τ → PW K 30 adC (cC K adC) (fun q : Nat => s.heap.size ≤ q) s.heap σ H locs → PW K 12 adM (cM K adM) (fun q : Nat => s.heap.size ≤ q) s.heap τ H locs → lv_has ls 4 [(0, .ref b), (1, .ref (adC 8)), (2, .ref (adM 0)), (3, .int x3)] → W p l e room_1 s m #[Value.ref b] below meth c H locs 42 3498 (lw_Z below #[Value.ref b] s) (F0 m 629 ls [])) (H : Heap) (locs : List Loc) (ls : Array Slot) (hw : PW K 30 adC (cC K adC) (fun q : Nat => s.heap.size ≤ q) s.heap σ H locs) (hw2 : PW K 12 adM (cM K adM) (fun q : Nat => s.heap.size ≤ q) s.heap τ H locs) (hl : lv_has ls 4 [(0, .ref b), (1, .ref (adC 8)), (2, .ref (adM 0)), (3, .int x3)]) : W p l e room_1 s m #[Value.ref b] below meth c H locs 42 3498 (lw_Z below #[Value.ref b] s) (F0 m 454 ls []) := by
  obtain ⟨hx, hb, hr, hml, hown, hts, hX, hbl, hlocks, hgv⟩ := C0
  have hbA : ¬ (fun q : Nat => s.heap.size ≤ q) b := Nat.not_le.mpr hbl
  obtain ⟨r, σ', τ', h1, h2, hR⟩ := hst σ τ (xs (x3 + 1).toNatClampNeg) (xs (x3 + 2).toNatClampNeg) (xs (x3 + 3).toNatClampNeg) hRel
  refine lv_aload_n hx hb dL_law_454 rfl (lv_at hl 1 rfl) ?_
  refine lv_aload_n hx hb dL_law_455 rfl (lv_at hl 0 rfl) ?_
  refine lv_iload_n hx hb dL_law_456 rfl (lv_at hl 3 rfl) ?_
  refine lv_iconst (v := 1) hx hb dL_law_457 (by decide) ?_
  refine lv_iadd hx hb dL_law_458 ?_
  refine va_sld hx hb hX hbl hbA hw.2 hi1 dL_law_459 ?_
  refine kL_i (As := [.int (xs (x3 + 1).toNatClampNeg)]) (rest := []) (q := 8) EC1 hw hw2 hdj (c_X6_hint l K adC hIC (xs (x3 + 1).toNatClampNeg) σ h1) mi_X6_hint mv_X6_hint ml_L_73 (by decide) rfl rfl rfl ⟨⟨Nat.le_of_ble_eq_true rfl, Nat.le_of_ble_eq_true rfl⟩, rfl, rfl⟩ ⟨Nat.le_of_ble_eq_true rfl, Nat.le_of_ble_eq_true rfl⟩ hl.1 rfl (Nat.le_of_ble_eq_true rfl) dL_law_460 (fun H locs hw hw2 => ?_)
  refine lv_aload_n hx hb dL_law_463 rfl (lv_at hl 2 rfl) ?_
  refine lv_aload_n hx hb dL_law_464 rfl (lv_at hl 0 rfl) ?_
  refine lv_iload_n hx hb dL_law_465 rfl (lv_at hl 3 rfl) ?_
  refine lv_iconst (v := 1) hx hb dL_law_466 (by decide) ?_
  refine lv_iadd hx hb dL_law_467 ?_
  refine va_sld hx hb hX hbl hbA hw.2 hi1 dL_law_468 ?_
  refine kL_i (As := [.int (xs (x3 + 1).toNatClampNeg)]) (rest := [.int r]) (q := 0) EC2 hw2 hw (fun i j h5 h6 h7 => hdj j i h6 h5 h7.symm) (c_X7_hint l K adM hIM (xs (x3 + 1).toNatClampNeg) τ h2) mi_X7_hint mv_X7_hint ml_L_76 (by decide) rfl rfl rfl ⟨⟨Nat.le_of_ble_eq_true rfl, Nat.le_of_ble_eq_true rfl⟩, rfl, rfl⟩ ⟨Nat.le_of_ble_eq_true rfl, Nat.le_of_ble_eq_true rfl⟩ hl.1 rfl (Nat.le_of_ble_eq_true rfl) dL_law_469 (fun H locs hw2 hw => ?_)
  refine lv_icmp_eq (tgt := 629) hx hb dL_law_472 (by decide) (fun c9 => ?_) (fun c9 => absurd rfl c9)
  exact kk _ _ H locs ls hR hw hw2 hl
set_option maxHeartbeats 4000000 in
set_option maxRecDepth 100000 in
theorem law_case_15 {p : Program} {l : Launch} {e : Env} {s : State} {m : MethodId} {below : List Frame} {meth : Method} {c : Code} {b L : Nat} {xs : Nat → Int32} (hL : L ≤ 2048) (C0 : lw_At p s m meth c b L xs) {K : vK} {adC adM : Nat → Nat} (EC1 : EC p s m #[Value.ref b] c code 4 gtbl R_law K 30 adC (cC K adC) (fun q : Nat => s.heap.size ≤ q)) (EC2 : EC p s m #[Value.ref b] c code 4 gtbl R_law K 12 adM (cM K adM) (fun q : Nat => s.heap.size ≤ q)) (hIC : adInj 30 adC) (hIM : adInj 12 adM) (hdj : ∀ i j, i < 12 → j < 30 → adM i ≠ adC j) {Rel : vSt → vSt → Prop} (hst : Stp_15 Rel) (x3 : Int32) (hi1 : vp_in (x3 + 1) L) (hi2 : vp_in (x3 + 2) L) (hi3 : vp_in (x3 + 3) L) (σ τ : vSt) (hRel : Rel σ τ) (kk : ∀ (σ τ : vSt) (H : Heap) (locs : List Loc) (ls : Array Slot), Rel σ τ → PW K 30 adC (cC K adC) (fun q : Nat => s.heap.size ≤ q) s.heap σ H locs → PW K 12 adM (cM K adM) (fun q : Nat => s.heap.size ≤ q) s.heap τ H locs → lv_has ls 4 [(0, .ref b), (1, .ref (adC 8)), (2, .ref (adM 0)), (3, .int x3)] → W p l e room_1 s m #[Value.ref b] below meth c H locs 42 3498 (lw_Z below #[Value.ref b] s) (F0 m 629 ls [])) (H : Heap) (locs : List Loc) (ls : Array Slot) (hw : PW K 30 adC (cC K adC) (fun q : Nat => s.heap.size ≤ q) s.heap σ H locs) (hw2 : PW K 12 adM (cM K adM) (fun q : Nat => s.heap.size ≤ q) s.heap τ H locs) (hl : lv_has ls 4 [(0, .ref b), (1, .ref (adC 8)), (2, .ref (adM 0)), (3, .int x3)]) : W p l e room_1 s m #[Value.ref b] below meth c H locs 42 3498 (lw_Z below #[Value.ref b] s) (F0 m 477 ls []) := by
  obtain ⟨hx, hb, hr, hml, hown, hts, hX, hbl, hlocks, hgv⟩ := C0
  have hbA : ¬ (fun q : Nat => s.heap.size ≤ q) b := Nat.not_le.mpr hbl
  obtain ⟨r, τ', h1, h2, hR⟩ := hst σ τ (xs (x3 + 1).toNatClampNeg) (xs (x3 + 2).toNatClampNeg) (xs (x3 + 3).toNatClampNeg) hRel
  refine lv_aload_n hx hb dL_law_477 rfl (lv_at hl 1 rfl) ?_
  refine lv_aload_n hx hb dL_law_478 rfl (lv_at hl 0 rfl) ?_
  refine lv_iload_n hx hb dL_law_479 rfl (lv_at hl 3 rfl) ?_
  refine lv_iconst (v := 1) hx hb dL_law_480 (by decide) ?_
  refine lv_iadd hx hb dL_law_481 ?_
  refine va_sld hx hb hX hbl hbA hw.2 hi1 dL_law_482 ?_
  refine lv_aload_n hx hb dL_law_483 rfl (lv_at hl 0 rfl) ?_
  refine lv_iload_n hx hb dL_law_484 rfl (lv_at hl 3 rfl) ?_
  refine lv_iconst (v := 2) hx hb dL_law_485 (by decide) ?_
  refine lv_iadd hx hb dL_law_486 ?_
  refine va_sld hx hb hX hbl hbA hw.2 hi2 dL_law_487 ?_
  refine kL_i (As := [.int (xs (x3 + 1).toNatClampNeg), .int (xs (x3 + 2).toNatClampNeg)]) (rest := []) (q := 8) EC1 hw hw2 hdj (c_X6_way l K adC hIC (xs (x3 + 1).toNatClampNeg) (xs (x3 + 2).toNatClampNeg) σ h1) mi_X6_way mv_X6_way ml_L_77 (by decide) rfl rfl rfl ⟨⟨Nat.le_of_ble_eq_true rfl, Nat.le_of_ble_eq_true rfl⟩, rfl, rfl⟩ ⟨Nat.le_of_ble_eq_true rfl, Nat.le_of_ble_eq_true rfl⟩ hl.1 rfl (Nat.le_of_ble_eq_true rfl) dL_law_488 (fun H locs hw hw2 => ?_)
  refine lv_aload_n hx hb dL_law_491 rfl (lv_at hl 2 rfl) ?_
  refine lv_aload_n hx hb dL_law_492 rfl (lv_at hl 0 rfl) ?_
  refine lv_iload_n hx hb dL_law_493 rfl (lv_at hl 3 rfl) ?_
  refine lv_iconst (v := 1) hx hb dL_law_494 (by decide) ?_
  refine lv_iadd hx hb dL_law_495 ?_
  refine va_sld hx hb hX hbl hbA hw.2 hi1 dL_law_496 ?_
  refine lv_aload_n hx hb dL_law_497 rfl (lv_at hl 0 rfl) ?_
  refine lv_iload_n hx hb dL_law_498 rfl (lv_at hl 3 rfl) ?_
  refine lv_iconst (v := 2) hx hb dL_law_499 (by decide) ?_
  refine lv_iadd hx hb dL_law_500 ?_
  refine va_sld hx hb hX hbl hbA hw.2 hi2 dL_law_501 ?_
  refine kL_i (As := [.int (xs (x3 + 1).toNatClampNeg), .int (xs (x3 + 2).toNatClampNeg)]) (rest := [.int r]) (q := 0) EC2 hw2 hw (fun i j h5 h6 h7 => hdj j i h6 h5 h7.symm) (c_X7_way l K adM hIM (xs (x3 + 1).toNatClampNeg) (xs (x3 + 2).toNatClampNeg) τ h2) mi_X7_way mv_X7_way ml_L_80 (by decide) rfl rfl rfl ⟨⟨Nat.le_of_ble_eq_true rfl, Nat.le_of_ble_eq_true rfl⟩, rfl, rfl⟩ ⟨Nat.le_of_ble_eq_true rfl, Nat.le_of_ble_eq_true rfl⟩ hl.1 rfl (Nat.le_of_ble_eq_true rfl) dL_law_502 (fun H locs hw2 hw => ?_)
  refine lv_icmp_eq (tgt := 629) hx hb dL_law_505 (by decide) (fun c9 => ?_) (fun c9 => absurd rfl c9)
  exact kk _ _ H locs ls hR hw hw2 hl
set_option maxHeartbeats 4000000 in
set_option maxRecDepth 100000 in
theorem law_case_16 {p : Program} {l : Launch} {e : Env} {s : State} {m : MethodId} {below : List Frame} {meth : Method} {c : Code} {b L : Nat} {xs : Nat → Int32} (hL : L ≤ 2048) (C0 : lw_At p s m meth c b L xs) {K : vK} {adC adM : Nat → Nat} (EC1 : EC p s m #[Value.ref b] c code 4 gtbl R_law K 30 adC (cC K adC) (fun q : Nat => s.heap.size ≤ q)) (EC2 : EC p s m #[Value.ref b] c code 4 gtbl R_law K 12 adM (cM K adM) (fun q : Nat => s.heap.size ≤ q)) (hIC : adInj 30 adC) (hIM : adInj 12 adM) (hdj : ∀ i j, i < 12 → j < 30 → adM i ≠ adC j) {Rel : vSt → vSt → Prop} (hst : Stp_16 Rel) (x3 : Int32) (hi1 : vp_in (x3 + 1) L) (hi2 : vp_in (x3 + 2) L) (hi3 : vp_in (x3 + 3) L) (σ τ : vSt) (hRel : Rel σ τ) (kk : ∀ (σ τ : vSt) (H : Heap) (locs : List Loc) (ls : Array Slot), Rel σ τ → PW K 30 adC (cC K adC) (fun q : Nat => s.heap.size ≤ q) s.heap σ H locs → PW K 12 adM (cM K adM) (fun q : Nat => s.heap.size ≤ q) s.heap τ H locs → lv_has ls 4 [(0, .ref b), (1, .ref (adC 8)), (2, .ref (adM 0)), (3, .int x3)] → W p l e room_1 s m #[Value.ref b] below meth c H locs 42 3498 (lw_Z below #[Value.ref b] s) (F0 m 629 ls [])) (H : Heap) (locs : List Loc) (ls : Array Slot) (hw : PW K 30 adC (cC K adC) (fun q : Nat => s.heap.size ≤ q) s.heap σ H locs) (hw2 : PW K 12 adM (cM K adM) (fun q : Nat => s.heap.size ≤ q) s.heap τ H locs) (hl : lv_has ls 4 [(0, .ref b), (1, .ref (adC 8)), (2, .ref (adM 0)), (3, .int x3)]) : W p l e room_1 s m #[Value.ref b] below meth c H locs 42 3498 (lw_Z below #[Value.ref b] s) (F0 m 510 ls []) := by
  obtain ⟨hx, hb, hr, hml, hown, hts, hX, hbl, hlocks, hgv⟩ := C0
  have hbA : ¬ (fun q : Nat => s.heap.size ≤ q) b := Nat.not_le.mpr hbl
  obtain ⟨r, σ', τ', h1, h2, hR⟩ := hst σ τ (xs (x3 + 1).toNatClampNeg) (xs (x3 + 2).toNatClampNeg) (xs (x3 + 3).toNatClampNeg) hRel
  refine lv_aload_n hx hb dL_law_510 rfl (lv_at hl 1 rfl) ?_
  refine lv_aload_n hx hb dL_law_511 rfl (lv_at hl 0 rfl) ?_
  refine lv_iload_n hx hb dL_law_512 rfl (lv_at hl 3 rfl) ?_
  refine lv_iconst (v := 1) hx hb dL_law_513 (by decide) ?_
  refine lv_iadd hx hb dL_law_514 ?_
  refine va_sld hx hb hX hbl hbA hw.2 hi1 dL_law_515 ?_
  refine kL_i (As := [.int (xs (x3 + 1).toNatClampNeg)]) (rest := []) (q := 8) EC1 hw hw2 hdj (c_X6_solutions l K adC hIC (xs (x3 + 1).toNatClampNeg) σ h1) mi_X6_solutions mv_X6_solutions ml_L_81 (by decide) rfl rfl rfl ⟨⟨Nat.le_of_ble_eq_true rfl, Nat.le_of_ble_eq_true rfl⟩, rfl, rfl⟩ ⟨Nat.le_of_ble_eq_true rfl, Nat.le_of_ble_eq_true rfl⟩ hl.1 rfl (Nat.le_of_ble_eq_true rfl) dL_law_516 (fun H locs hw hw2 => ?_)
  refine lv_aload_n hx hb dL_law_519 rfl (lv_at hl 2 rfl) ?_
  refine lv_aload_n hx hb dL_law_520 rfl (lv_at hl 0 rfl) ?_
  refine lv_iload_n hx hb dL_law_521 rfl (lv_at hl 3 rfl) ?_
  refine lv_iconst (v := 1) hx hb dL_law_522 (by decide) ?_
  refine lv_iadd hx hb dL_law_523 ?_
  refine va_sld hx hb hX hbl hbA hw.2 hi1 dL_law_524 ?_
  refine kL_i (As := [.int (xs (x3 + 1).toNatClampNeg)]) (rest := [.int r]) (q := 0) EC2 hw2 hw (fun i j h5 h6 h7 => hdj j i h6 h5 h7.symm) (c_X7_solutions l K adM hIM (xs (x3 + 1).toNatClampNeg) τ h2) mi_X7_solutions mv_X7_solutions ml_L_84 (by decide) rfl rfl rfl ⟨⟨Nat.le_of_ble_eq_true rfl, Nat.le_of_ble_eq_true rfl⟩, rfl, rfl⟩ ⟨Nat.le_of_ble_eq_true rfl, Nat.le_of_ble_eq_true rfl⟩ hl.1 rfl (Nat.le_of_ble_eq_true rfl) dL_law_525 (fun H locs hw2 hw => ?_)
  refine lv_icmp_eq (tgt := 629) hx hb dL_law_528 (by decide) (fun c9 => ?_) (fun c9 => absurd rfl c9)
  exact kk _ _ H locs ls hR hw hw2 hl
set_option maxHeartbeats 4000000 in
set_option maxRecDepth 100000 in
theorem law_case_17 {p : Program} {l : Launch} {e : Env} {s : State} {m : MethodId} {below : List Frame} {meth : Method} {c : Code} {b L : Nat} {xs : Nat → Int32} (hL : L ≤ 2048) (C0 : lw_At p s m meth c b L xs) {K : vK} {adC adM : Nat → Nat} (EC1 : EC p s m #[Value.ref b] c code 4 gtbl R_law K 30 adC (cC K adC) (fun q : Nat => s.heap.size ≤ q)) (EC2 : EC p s m #[Value.ref b] c code 4 gtbl R_law K 12 adM (cM K adM) (fun q : Nat => s.heap.size ≤ q)) (hIC : adInj 30 adC) (hIM : adInj 12 adM) (hdj : ∀ i j, i < 12 → j < 30 → adM i ≠ adC j) {Rel : vSt → vSt → Prop} (hst : Stp_17 Rel) (x3 : Int32) (hi1 : vp_in (x3 + 1) L) (hi2 : vp_in (x3 + 2) L) (hi3 : vp_in (x3 + 3) L) (σ τ : vSt) (hRel : Rel σ τ) (kk : ∀ (σ τ : vSt) (H : Heap) (locs : List Loc) (ls : Array Slot), Rel σ τ → PW K 30 adC (cC K adC) (fun q : Nat => s.heap.size ≤ q) s.heap σ H locs → PW K 12 adM (cM K adM) (fun q : Nat => s.heap.size ≤ q) s.heap τ H locs → lv_has ls 4 [(0, .ref b), (1, .ref (adC 8)), (2, .ref (adM 0)), (3, .int x3)] → W p l e room_1 s m #[Value.ref b] below meth c H locs 42 3498 (lw_Z below #[Value.ref b] s) (F0 m 629 ls [])) (H : Heap) (locs : List Loc) (ls : Array Slot) (hw : PW K 30 adC (cC K adC) (fun q : Nat => s.heap.size ≤ q) s.heap σ H locs) (hw2 : PW K 12 adM (cM K adM) (fun q : Nat => s.heap.size ≤ q) s.heap τ H locs) (hl : lv_has ls 4 [(0, .ref b), (1, .ref (adC 8)), (2, .ref (adM 0)), (3, .int x3)]) : W p l e room_1 s m #[Value.ref b] below meth c H locs 42 3498 (lw_Z below #[Value.ref b] s) (F0 m 533 ls []) := by
  obtain ⟨hx, hb, hr, hml, hown, hts, hX, hbl, hlocks, hgv⟩ := C0
  have hbA : ¬ (fun q : Nat => s.heap.size ≤ q) b := Nat.not_le.mpr hbl
  obtain ⟨r, σ', τ', h1, h2, hR⟩ := hst σ τ (xs (x3 + 1).toNatClampNeg) (xs (x3 + 2).toNatClampNeg) (xs (x3 + 3).toNatClampNeg) hRel
  refine lv_aload_n hx hb dL_law_533 rfl (lv_at hl 1 rfl) ?_
  refine lv_aload_n hx hb dL_law_534 rfl (lv_at hl 0 rfl) ?_
  refine lv_iload_n hx hb dL_law_535 rfl (lv_at hl 3 rfl) ?_
  refine lv_iconst (v := 1) hx hb dL_law_536 (by decide) ?_
  refine lv_iadd hx hb dL_law_537 ?_
  refine va_sld hx hb hX hbl hbA hw.2 hi1 dL_law_538 ?_
  refine kL_i (As := [.int (xs (x3 + 1).toNatClampNeg)]) (rest := []) (q := 8) EC1 hw hw2 hdj (c_X6_nodes l K adC hIC (xs (x3 + 1).toNatClampNeg) σ h1) mi_X6_nodes mv_X6_nodes ml_L_85 (by decide) rfl rfl rfl ⟨⟨Nat.le_of_ble_eq_true rfl, Nat.le_of_ble_eq_true rfl⟩, rfl, rfl⟩ ⟨Nat.le_of_ble_eq_true rfl, Nat.le_of_ble_eq_true rfl⟩ hl.1 rfl (Nat.le_of_ble_eq_true rfl) dL_law_539 (fun H locs hw hw2 => ?_)
  refine lv_aload_n hx hb dL_law_542 rfl (lv_at hl 2 rfl) ?_
  refine lv_aload_n hx hb dL_law_543 rfl (lv_at hl 0 rfl) ?_
  refine lv_iload_n hx hb dL_law_544 rfl (lv_at hl 3 rfl) ?_
  refine lv_iconst (v := 1) hx hb dL_law_545 (by decide) ?_
  refine lv_iadd hx hb dL_law_546 ?_
  refine va_sld hx hb hX hbl hbA hw.2 hi1 dL_law_547 ?_
  refine kL_i (As := [.int (xs (x3 + 1).toNatClampNeg)]) (rest := [.int r]) (q := 0) EC2 hw2 hw (fun i j h5 h6 h7 => hdj j i h6 h5 h7.symm) (c_X7_nodes l K adM hIM (xs (x3 + 1).toNatClampNeg) τ h2) mi_X7_nodes mv_X7_nodes ml_L_88 (by decide) rfl rfl rfl ⟨⟨Nat.le_of_ble_eq_true rfl, Nat.le_of_ble_eq_true rfl⟩, rfl, rfl⟩ ⟨Nat.le_of_ble_eq_true rfl, Nat.le_of_ble_eq_true rfl⟩ hl.1 rfl (Nat.le_of_ble_eq_true rfl) dL_law_548 (fun H locs hw2 hw => ?_)
  refine lv_icmp_eq (tgt := 629) hx hb dL_law_551 (by decide) (fun c9 => ?_) (fun c9 => absurd rfl c9)
  exact kk _ _ H locs ls hR hw hw2 hl
set_option maxHeartbeats 4000000 in
set_option maxRecDepth 100000 in
theorem law_case_18 {p : Program} {l : Launch} {e : Env} {s : State} {m : MethodId} {below : List Frame} {meth : Method} {c : Code} {b L : Nat} {xs : Nat → Int32} (hL : L ≤ 2048) (C0 : lw_At p s m meth c b L xs) {K : vK} {adC adM : Nat → Nat} (EC1 : EC p s m #[Value.ref b] c code 4 gtbl R_law K 30 adC (cC K adC) (fun q : Nat => s.heap.size ≤ q)) (EC2 : EC p s m #[Value.ref b] c code 4 gtbl R_law K 12 adM (cM K adM) (fun q : Nat => s.heap.size ≤ q)) (hIC : adInj 30 adC) (hIM : adInj 12 adM) (hdj : ∀ i j, i < 12 → j < 30 → adM i ≠ adC j) {Rel : vSt → vSt → Prop} (hst : Stp_18 Rel) (x3 : Int32) (hi1 : vp_in (x3 + 1) L) (hi2 : vp_in (x3 + 2) L) (hi3 : vp_in (x3 + 3) L) (σ τ : vSt) (hRel : Rel σ τ) (kk : ∀ (σ τ : vSt) (H : Heap) (locs : List Loc) (ls : Array Slot), Rel σ τ → PW K 30 adC (cC K adC) (fun q : Nat => s.heap.size ≤ q) s.heap σ H locs → PW K 12 adM (cM K adM) (fun q : Nat => s.heap.size ≤ q) s.heap τ H locs → lv_has ls 4 [(0, .ref b), (1, .ref (adC 8)), (2, .ref (adM 0)), (3, .int x3)] → W p l e room_1 s m #[Value.ref b] below meth c H locs 42 3498 (lw_Z below #[Value.ref b] s) (F0 m 629 ls [])) (H : Heap) (locs : List Loc) (ls : Array Slot) (hw : PW K 30 adC (cC K adC) (fun q : Nat => s.heap.size ≤ q) s.heap σ H locs) (hw2 : PW K 12 adM (cM K adM) (fun q : Nat => s.heap.size ≤ q) s.heap τ H locs) (hl : lv_has ls 4 [(0, .ref b), (1, .ref (adC 8)), (2, .ref (adM 0)), (3, .int x3)]) : W p l e room_1 s m #[Value.ref b] below meth c H locs 42 3498 (lw_Z below #[Value.ref b] s) (F0 m 556 ls []) := by
  obtain ⟨hx, hb, hr, hml, hown, hts, hX, hbl, hlocks, hgv⟩ := C0
  have hbA : ¬ (fun q : Nat => s.heap.size ≤ q) b := Nat.not_le.mpr hbl
  obtain ⟨r, σ', τ', h1, h2, hR⟩ := hst σ τ (xs (x3 + 1).toNatClampNeg) (xs (x3 + 2).toNatClampNeg) (xs (x3 + 3).toNatClampNeg) hRel
  refine lv_aload_n hx hb dL_law_556 rfl (lv_at hl 1 rfl) ?_
  refine lv_aload_n hx hb dL_law_557 rfl (lv_at hl 0 rfl) ?_
  refine lv_iload_n hx hb dL_law_558 rfl (lv_at hl 3 rfl) ?_
  refine lv_iconst (v := 1) hx hb dL_law_559 (by decide) ?_
  refine lv_iadd hx hb dL_law_560 ?_
  refine va_sld hx hb hX hbl hbA hw.2 hi1 dL_law_561 ?_
  refine kL_i (As := [.int (xs (x3 + 1).toNatClampNeg)]) (rest := []) (q := 8) EC1 hw hw2 hdj (c_X6_solved l K adC hIC (xs (x3 + 1).toNatClampNeg) σ h1) mi_X6_solved mv_X6_solved ml_L_89 (by decide) rfl rfl rfl ⟨⟨Nat.le_of_ble_eq_true rfl, Nat.le_of_ble_eq_true rfl⟩, rfl, rfl⟩ ⟨Nat.le_of_ble_eq_true rfl, Nat.le_of_ble_eq_true rfl⟩ hl.1 rfl (Nat.le_of_ble_eq_true rfl) dL_law_562 (fun H locs hw hw2 => ?_)
  refine lv_aload_n hx hb dL_law_565 rfl (lv_at hl 2 rfl) ?_
  refine lv_aload_n hx hb dL_law_566 rfl (lv_at hl 0 rfl) ?_
  refine lv_iload_n hx hb dL_law_567 rfl (lv_at hl 3 rfl) ?_
  refine lv_iconst (v := 1) hx hb dL_law_568 (by decide) ?_
  refine lv_iadd hx hb dL_law_569 ?_
  refine va_sld hx hb hX hbl hbA hw.2 hi1 dL_law_570 ?_
  refine kL_i (As := [.int (xs (x3 + 1).toNatClampNeg)]) (rest := [.int r]) (q := 0) EC2 hw2 hw (fun i j h5 h6 h7 => hdj j i h6 h5 h7.symm) (c_X7_solved l K adM hIM (xs (x3 + 1).toNatClampNeg) τ h2) mi_X7_solved mv_X7_solved ml_L_92 (by decide) rfl rfl rfl ⟨⟨Nat.le_of_ble_eq_true rfl, Nat.le_of_ble_eq_true rfl⟩, rfl, rfl⟩ ⟨Nat.le_of_ble_eq_true rfl, Nat.le_of_ble_eq_true rfl⟩ hl.1 rfl (Nat.le_of_ble_eq_true rfl) dL_law_571 (fun H locs hw2 hw => ?_)
  refine lv_icmp_eq (tgt := 629) hx hb dL_law_574 (by decide) (fun c9 => ?_) (fun c9 => absurd rfl c9)
  exact kk _ _ H locs ls hR hw hw2 hl
set_option maxHeartbeats 4000000 in
set_option maxRecDepth 100000 in
theorem law_case_19 {p : Program} {l : Launch} {e : Env} {s : State} {m : MethodId} {below : List Frame} {meth : Method} {c : Code} {b L : Nat} {xs : Nat → Int32} (hL : L ≤ 2048) (C0 : lw_At p s m meth c b L xs) {K : vK} {adC adM : Nat → Nat} (EC1 : EC p s m #[Value.ref b] c code 4 gtbl R_law K 30 adC (cC K adC) (fun q : Nat => s.heap.size ≤ q)) (EC2 : EC p s m #[Value.ref b] c code 4 gtbl R_law K 12 adM (cM K adM) (fun q : Nat => s.heap.size ≤ q)) (hIC : adInj 30 adC) (hIM : adInj 12 adM) (hdj : ∀ i j, i < 12 → j < 30 → adM i ≠ adC j) {Rel : vSt → vSt → Prop} (hst : Stp_19 Rel) (x3 : Int32) (hi1 : vp_in (x3 + 1) L) (hi2 : vp_in (x3 + 2) L) (hi3 : vp_in (x3 + 3) L) (σ τ : vSt) (hRel : Rel σ τ) (kk : ∀ (σ τ : vSt) (H : Heap) (locs : List Loc) (ls : Array Slot), Rel σ τ → PW K 30 adC (cC K adC) (fun q : Nat => s.heap.size ≤ q) s.heap σ H locs → PW K 12 adM (cM K adM) (fun q : Nat => s.heap.size ≤ q) s.heap τ H locs → lv_has ls 4 [(0, .ref b), (1, .ref (adC 8)), (2, .ref (adM 0)), (3, .int x3)] → W p l e room_1 s m #[Value.ref b] below meth c H locs 42 3498 (lw_Z below #[Value.ref b] s) (F0 m 629 ls [])) (H : Heap) (locs : List Loc) (ls : Array Slot) (hw : PW K 30 adC (cC K adC) (fun q : Nat => s.heap.size ≤ q) s.heap σ H locs) (hw2 : PW K 12 adM (cM K adM) (fun q : Nat => s.heap.size ≤ q) s.heap τ H locs) (hl : lv_has ls 4 [(0, .ref b), (1, .ref (adC 8)), (2, .ref (adM 0)), (3, .int x3)]) : W p l e room_1 s m #[Value.ref b] below meth c H locs 42 3498 (lw_Z below #[Value.ref b] s) (F0 m 579 ls []) := by
  obtain ⟨hx, hb, hr, hml, hown, hts, hX, hbl, hlocks, hgv⟩ := C0
  have hbA : ¬ (fun q : Nat => s.heap.size ≤ q) b := Nat.not_le.mpr hbl
  obtain ⟨r, σ', τ', h1, h2, hR⟩ := hst σ τ (xs (x3 + 1).toNatClampNeg) (xs (x3 + 2).toNatClampNeg) (xs (x3 + 3).toNatClampNeg) hRel
  refine lv_aload_n hx hb dL_law_579 rfl (lv_at hl 1 rfl) ?_
  refine kL_i (As := []) (rest := []) (q := 8) EC1 hw hw2 hdj (c_X6_grade l K adC hIC  σ h1) mi_X6_grade mv_X6_grade ml_L_93 (by decide) rfl rfl rfl ⟨⟨Nat.le_of_ble_eq_true rfl, Nat.le_of_ble_eq_true rfl⟩, rfl, rfl⟩ ⟨Nat.le_of_ble_eq_true rfl, Nat.le_of_ble_eq_true rfl⟩ hl.1 rfl (Nat.le_of_ble_eq_true rfl) dL_law_580 (fun H locs hw hw2 => ?_)
  refine lv_aload_n hx hb dL_law_583 rfl (lv_at hl 2 rfl) ?_
  refine kL_i (As := []) (rest := [.int r]) (q := 0) EC2 hw2 hw (fun i j h5 h6 h7 => hdj j i h6 h5 h7.symm) (c_X7_grade l K adM hIM  τ h2) mi_X7_grade mv_X7_grade ml_L_96 (by decide) rfl rfl rfl ⟨⟨Nat.le_of_ble_eq_true rfl, Nat.le_of_ble_eq_true rfl⟩, rfl, rfl⟩ ⟨Nat.le_of_ble_eq_true rfl, Nat.le_of_ble_eq_true rfl⟩ hl.1 rfl (Nat.le_of_ble_eq_true rfl) dL_law_584 (fun H locs hw2 hw => ?_)
  refine lv_icmp_eq (tgt := 629) hx hb dL_law_587 (by decide) (fun c9 => ?_) (fun c9 => absurd rfl c9)
  exact kk _ _ H locs ls hR hw hw2 hl
set_option maxHeartbeats 4000000 in
set_option maxRecDepth 100000 in
theorem law_case_20 {p : Program} {l : Launch} {e : Env} {s : State} {m : MethodId} {below : List Frame} {meth : Method} {c : Code} {b L : Nat} {xs : Nat → Int32} (hL : L ≤ 2048) (C0 : lw_At p s m meth c b L xs) {K : vK} {adC adM : Nat → Nat} (EC1 : EC p s m #[Value.ref b] c code 4 gtbl R_law K 30 adC (cC K adC) (fun q : Nat => s.heap.size ≤ q)) (EC2 : EC p s m #[Value.ref b] c code 4 gtbl R_law K 12 adM (cM K adM) (fun q : Nat => s.heap.size ≤ q)) (hIC : adInj 30 adC) (hIM : adInj 12 adM) (hdj : ∀ i j, i < 12 → j < 30 → adM i ≠ adC j) {Rel : vSt → vSt → Prop} (hst : Stp_20 Rel) (x3 : Int32) (hi1 : vp_in (x3 + 1) L) (hi2 : vp_in (x3 + 2) L) (hi3 : vp_in (x3 + 3) L) (σ τ : vSt) (hRel : Rel σ τ) (kk : ∀ (σ τ : vSt) (H : Heap) (locs : List Loc) (ls : Array Slot), Rel σ τ → PW K 30 adC (cC K adC) (fun q : Nat => s.heap.size ≤ q) s.heap σ H locs → PW K 12 adM (cM K adM) (fun q : Nat => s.heap.size ≤ q) s.heap τ H locs → lv_has ls 4 [(0, .ref b), (1, .ref (adC 8)), (2, .ref (adM 0)), (3, .int x3)] → W p l e room_1 s m #[Value.ref b] below meth c H locs 42 3498 (lw_Z below #[Value.ref b] s) (F0 m 629 ls [])) (H : Heap) (locs : List Loc) (ls : Array Slot) (hw : PW K 30 adC (cC K adC) (fun q : Nat => s.heap.size ≤ q) s.heap σ H locs) (hw2 : PW K 12 adM (cM K adM) (fun q : Nat => s.heap.size ≤ q) s.heap τ H locs) (hl : lv_has ls 4 [(0, .ref b), (1, .ref (adC 8)), (2, .ref (adM 0)), (3, .int x3)]) : W p l e room_1 s m #[Value.ref b] below meth c H locs 42 3498 (lw_Z below #[Value.ref b] s) (F0 m 592 ls []) := by
  obtain ⟨hx, hb, hr, hml, hown, hts, hX, hbl, hlocks, hgv⟩ := C0
  have hbA : ¬ (fun q : Nat => s.heap.size ≤ q) b := Nat.not_le.mpr hbl
  obtain ⟨r, h1, h2, hR⟩ := hst σ τ (xs (x3 + 1).toNatClampNeg) (xs (x3 + 2).toNatClampNeg) (xs (x3 + 3).toNatClampNeg) hRel
  refine lv_aload_n hx hb dL_law_592 rfl (lv_at hl 1 rfl) ?_
  refine lv_aload_n hx hb dL_law_593 rfl (lv_at hl 0 rfl) ?_
  refine lv_iload_n hx hb dL_law_594 rfl (lv_at hl 3 rfl) ?_
  refine lv_iconst (v := 1) hx hb dL_law_595 (by decide) ?_
  refine lv_iadd hx hb dL_law_596 ?_
  refine va_sld hx hb hX hbl hbA hw.2 hi1 dL_law_597 ?_
  refine kL_i (As := [.int (xs (x3 + 1).toNatClampNeg)]) (rest := []) (q := 8) EC1 hw hw2 hdj (c_X6_count l K adC hIC (xs (x3 + 1).toNatClampNeg) σ h1) mi_X6_count mv_X6_count ml_L_97 (by decide) rfl rfl rfl ⟨⟨Nat.le_of_ble_eq_true rfl, Nat.le_of_ble_eq_true rfl⟩, rfl, rfl⟩ ⟨Nat.le_of_ble_eq_true rfl, Nat.le_of_ble_eq_true rfl⟩ hl.1 rfl (Nat.le_of_ble_eq_true rfl) dL_law_598 (fun H locs hw hw2 => ?_)
  refine lv_aload_n hx hb dL_law_601 rfl (lv_at hl 2 rfl) ?_
  refine lv_aload_n hx hb dL_law_602 rfl (lv_at hl 0 rfl) ?_
  refine lv_iload_n hx hb dL_law_603 rfl (lv_at hl 3 rfl) ?_
  refine lv_iconst (v := 1) hx hb dL_law_604 (by decide) ?_
  refine lv_iadd hx hb dL_law_605 ?_
  refine va_sld hx hb hX hbl hbA hw.2 hi1 dL_law_606 ?_
  refine kL_i (As := [.int (xs (x3 + 1).toNatClampNeg)]) (rest := [.int r]) (q := 0) EC2 hw2 hw (fun i j h5 h6 h7 => hdj j i h6 h5 h7.symm) (c_X7_count l K adM hIM (xs (x3 + 1).toNatClampNeg) τ h2) mi_X7_count mv_X7_count ml_L_100 (by decide) rfl rfl rfl ⟨⟨Nat.le_of_ble_eq_true rfl, Nat.le_of_ble_eq_true rfl⟩, rfl, rfl⟩ ⟨Nat.le_of_ble_eq_true rfl, Nat.le_of_ble_eq_true rfl⟩ hl.1 rfl (Nat.le_of_ble_eq_true rfl) dL_law_607 (fun H locs hw2 hw => ?_)
  refine lv_icmp_eq (tgt := 629) hx hb dL_law_610 (by decide) (fun c9 => ?_) (fun c9 => absurd rfl c9)
  exact kk _ _ H locs ls hR hw hw2 hl
set_option maxHeartbeats 4000000 in
set_option maxRecDepth 100000 in
theorem law_case_21 {p : Program} {l : Launch} {e : Env} {s : State} {m : MethodId} {below : List Frame} {meth : Method} {c : Code} {b L : Nat} {xs : Nat → Int32} (hL : L ≤ 2048) (C0 : lw_At p s m meth c b L xs) {K : vK} {adC adM : Nat → Nat} (EC1 : EC p s m #[Value.ref b] c code 4 gtbl R_law K 30 adC (cC K adC) (fun q : Nat => s.heap.size ≤ q)) (EC2 : EC p s m #[Value.ref b] c code 4 gtbl R_law K 12 adM (cM K adM) (fun q : Nat => s.heap.size ≤ q)) (hIC : adInj 30 adC) (hIM : adInj 12 adM) (hdj : ∀ i j, i < 12 → j < 30 → adM i ≠ adC j) {Rel : vSt → vSt → Prop} (hst : Stp_21 Rel) (x3 : Int32) (hi1 : vp_in (x3 + 1) L) (hi2 : vp_in (x3 + 2) L) (hi3 : vp_in (x3 + 3) L) (σ τ : vSt) (hRel : Rel σ τ) (kk : ∀ (σ τ : vSt) (H : Heap) (locs : List Loc) (ls : Array Slot), Rel σ τ → PW K 30 adC (cC K adC) (fun q : Nat => s.heap.size ≤ q) s.heap σ H locs → PW K 12 adM (cM K adM) (fun q : Nat => s.heap.size ≤ q) s.heap τ H locs → lv_has ls 4 [(0, .ref b), (1, .ref (adC 8)), (2, .ref (adM 0)), (3, .int x3)] → W p l e room_1 s m #[Value.ref b] below meth c H locs 42 3498 (lw_Z below #[Value.ref b] s) (F0 m 629 ls [])) (H : Heap) (locs : List Loc) (ls : Array Slot) (hw : PW K 30 adC (cC K adC) (fun q : Nat => s.heap.size ≤ q) s.heap σ H locs) (hw2 : PW K 12 adM (cM K adM) (fun q : Nat => s.heap.size ≤ q) s.heap τ H locs) (hl : lv_has ls 4 [(0, .ref b), (1, .ref (adC 8)), (2, .ref (adM 0)), (3, .int x3)]) : W p l e room_1 s m #[Value.ref b] below meth c H locs 42 3498 (lw_Z below #[Value.ref b] s) (F0 m 615 ls []) := by
  obtain ⟨hx, hb, hr, hml, hown, hts, hX, hbl, hlocks, hgv⟩ := C0
  have hbA : ¬ (fun q : Nat => s.heap.size ≤ q) b := Nat.not_le.mpr hbl
  obtain ⟨r, σ', τ', h1, h2, hR⟩ := hst σ τ (xs (x3 + 1).toNatClampNeg) (xs (x3 + 2).toNatClampNeg) (xs (x3 + 3).toNatClampNeg) hRel
  refine lv_aload_n hx hb dL_law_615 rfl (lv_at hl 1 rfl) ?_
  refine kL_l (As := []) (rest := []) (q := 8) EC1 hw hw2 hdj (c_X6_digest l K adC hIC  σ h1) mi_X6_digest mv_X6_digest ml_L_101 (by decide) rfl rfl rfl ⟨⟨Nat.le_of_ble_eq_true rfl, Nat.le_of_ble_eq_true rfl⟩, rfl, rfl⟩ ⟨Nat.le_of_ble_eq_true rfl, Nat.le_of_ble_eq_true rfl⟩ hl.1 rfl (Nat.le_of_ble_eq_true rfl) dL_law_616 (fun H locs hw hw2 => ?_)
  refine lv_aload_n hx hb dL_law_619 rfl (lv_at hl 2 rfl) ?_
  refine kL_l (As := []) (rest := [.long r]) (q := 0) EC2 hw2 hw (fun i j h5 h6 h7 => hdj j i h6 h5 h7.symm) (c_X7_digest l K adM hIM  τ h2) mi_X7_digest mv_X7_digest ml_L_105 (by decide) rfl rfl rfl ⟨⟨Nat.le_of_ble_eq_true rfl, Nat.le_of_ble_eq_true rfl⟩, rfl, rfl⟩ ⟨Nat.le_of_ble_eq_true rfl, Nat.le_of_ble_eq_true rfl⟩ hl.1 rfl (Nat.le_of_ble_eq_true rfl) dL_law_620 (fun H locs hw2 hw => ?_)
  refine W.lcmp hx hb dL_law_623 ?_
  refine lv_if_eq (tgt := 629) hx hb dL_law_624 (by decide) (fun c9 => ?_) (fun c9 => absurd (lg_cmp_self r) c9)
  exact kk _ _ H locs ls hR hw hw2 hl
theorem sw_in21 {x : Int32} (h : 0 ≤ x.toInt ∧ x.toInt < 32) : (∃ k : Nat, k < 22 ∧ x = nI k) ∨ (x.toInt < 0 ∨ 21 < x.toInt) := by
  by_cases h2 : x.toInt < 22
  · refine Or.inl ⟨x.toInt.toNat, by omega, ?_⟩
    apply Int32.toInt_inj.mp
    rw [nI_toInt (by omega)]
    omega
  · exact Or.inr (Or.inr (by omega))
set_option maxHeartbeats 4000000 in
set_option maxRecDepth 100000 in
theorem law_loop {p : Program} {l : Launch} {e : Env} {s : State} {m : MethodId} {below : List Frame} {meth : Method} {c : Code} {b L : Nat} {xs : Nat → Int32} (hL : L ≤ 2048) (C0 : lw_At p s m meth c b L xs) {K : vK} {adC adM : Nat → Nat} (EC1 : EC p s m #[Value.ref b] c code 4 gtbl R_law K 30 adC (cC K adC) (fun q : Nat => s.heap.size ≤ q)) (EC2 : EC p s m #[Value.ref b] c code 4 gtbl R_law K 12 adM (cM K adM) (fun q : Nat => s.heap.size ≤ q)) (hIC : adInj 30 adC) (hIM : adInj 12 adM) (hdj : ∀ i j, i < 12 → j < 30 → adM i ≠ adC j) {Rel : vSt → vSt → Prop} (hSt : LawSteps Rel) : ∀ (n j : Nat) (x3 : Int32), 4 * j ≤ L → L + 4 ≤ 4 * (j + n) → x3 = nI (4 * j) → ∀ (σ τ : vSt), Rel σ τ → ∀ (H : Heap) (locs : List Loc) (ls : Array Slot), PW K 30 adC (cC K adC) (fun q : Nat => s.heap.size ≤ q) s.heap σ H locs → PW K 12 adM (cM K adM) (fun q : Nat => s.heap.size ≤ q) s.heap τ H locs → lv_has ls 4 [(0, .ref b), (1, .ref (adC 8)), (2, .ref (adM 0)), (3, .int x3)] → W p l e room_1 s m #[Value.ref b] below meth c H locs 42 3498 (lw_Z below #[Value.ref b] s) (F0 m 18 ls []) := by
  have C00 := C0
  obtain ⟨hx, hb, hr, hml, hown, hts, hX, hbl, hlocks, hgv⟩ := C0
  have hbA : ¬ (fun q : Nat => s.heap.size ≤ q) b := Nat.not_le.mpr hbl
  obtain ⟨s0, s1, s2, s3, s4, s5, s6, s7, s8, s9, s10, s11, s12, s13, s14, s15, s16, s17, s18, s19, s20, s21⟩ := hSt
  intro n
  induction n with
  | zero => intro j x3 h1 h2; exact absurd h2 (by omega)
  | succ n ih =>
    intro j x3 hj hjn ex3 σ τ hRel H locs ls hw hw2 hl
    refine lv_iload_n hx hb dL_law_18 rfl (lv_at hl 3 rfl) ?_
    refine lv_aload_n hx hb dL_law_19 rfl (lv_at hl 0 rfl) ?_
    refine va_slen hx hb hX hbl hbA hw.2 dL_law_20 ?_
    refine lv_iconst (v := 4) hx hb dL_law_21 (by decide) ?_
    refine lv_isub hx hb dL_law_22 ?_
    refine lv_icmp_gt (tgt := 635) hx hb dL_law_23 (by decide) (fun c1 => ?_) (fun c1 => ?_)
    · refine lv_iconst (v := 1) hx hb dL_law_635 (by decide) ?_
      refine va_forget (fun q hq => hw.2.2.2 q hq) ?_
      exact lw_ret hx hb hr hlocks dL_law_636
    · have hlt : 4 * j + 4 ≤ L := by
        have e1 : (nI L - 4).toInt = (L : Int) - 4 := by rw [show (4 : Int32) = nI 4 from rfl]; exact pk_sub_toInt (by omega) (by decide)
        have e2 : x3.toInt = ((4 * j : Nat) : Int) := by rw [ex3]; exact nI_toInt (by omega)
        have e3 : ¬ (nI L - 4).toInt < x3.toInt := fun h => c1 (Int32.lt_iff_toInt_lt.mpr h)
        omega
      have hi0 : vp_in x3 L := by rw [ex3]; exact vp_in_nI (by omega) (by omega)
      have hi1 : vp_in (x3 + 1) L := by rw [ex3, show nI (4 * j) + 1 = nI (4 * j + 1) from nI_add (4 * j) 1]; exact vp_in_nI (by omega) (by omega)
      have hi2 : vp_in (x3 + 2) L := by rw [ex3, show nI (4 * j) + 2 = nI (4 * j + 2) from nI_add (4 * j) 2]; exact vp_in_nI (by omega) (by omega)
      have hi3 : vp_in (x3 + 3) L := by rw [ex3, show nI (4 * j) + 3 = nI (4 * j + 3) from nI_add (4 * j) 3]; exact vp_in_nI (by omega) (by omega)
      have kk : ∀ (σ τ : vSt) (H : Heap) (locs : List Loc) (ls : Array Slot), Rel σ τ → PW K 30 adC (cC K adC) (fun q : Nat => s.heap.size ≤ q) s.heap σ H locs → PW K 12 adM (cM K adM) (fun q : Nat => s.heap.size ≤ q) s.heap τ H locs → lv_has ls 4 [(0, .ref b), (1, .ref (adC 8)), (2, .ref (adM 0)), (3, .int x3)] → W p l e room_1 s m #[Value.ref b] below meth c H locs 42 3498 (lw_Z below #[Value.ref b] s) (F0 m 629 ls []) := by
        intro σ τ H locs ls hRel hw hw2 hl
        refine lv_iinc (v := x3 + 4) (lv' := [(3, .int (x3 + 4)), (0, .ref b), (1, .ref (adC 8)), (2, .ref (adM 0))]) hx hb dL_law_629 hl (k := 3) rfl rfl (by decide) rfl (fun ls hl => ?_)
        refine lv_goto (tgt := 18) hx hb dL_law_632 (by decide) ?_
        exact ih (j + 1) (x3 + 4) hlt (by omega) (by rw [ex3]; exact nI_add (4 * j) 4) σ τ hRel H locs ls hw hw2 (lv_sub hl [1, 2, 3, 0] rfl)
      refine lv_aload_n hx hb dL_law_26 rfl (lv_at hl 0 rfl) ?_
      refine lv_iload_n hx hb dL_law_27 rfl (lv_at hl 3 rfl) ?_
      refine va_sld hx hb hX hbl hbA hw.2 hi0 dL_law_28 ?_
      refine lv_bipush (v := 31) hx hb dL_law_29 (by decide) ?_
      refine lv_iand hx hb dL_law_31 ?_
      refine lv_topi (fun z ez => ?_)
      have hz : 0 ≤ z.toInt ∧ z.toInt < 32 := by
        obtain ⟨a, ha, hz⟩ := pk_andE (xs x3.toNatClampNeg) (m := 31) 5 (by decide)
        rw [ez, hz, nI_toInt (by omega)]
        omega
      rcases sw_in21 hz with ⟨k, hk, rfl⟩ | hz
      · match k, hk with
        | 0, _ =>
          refine lv_tableIn (off := 104) (tgt := 136) hx hb dL_law_32 (by decide) (by decide) rfl (by decide) ?_
          exact law_case_0 hL C00 EC1 EC2 hIC hIM hdj s0 x3 hi1 hi2 hi3 σ τ hRel kk H locs ls hw hw2 hl
        | 1, _ =>
          refine lv_tableIn (off := 127) (tgt := 159) hx hb dL_law_32 (by decide) (by decide) rfl (by decide) ?_
          exact law_case_1 hL C00 EC1 EC2 hIC hIM hdj s1 x3 hi1 hi2 hi3 σ τ hRel kk H locs ls hw hw2 hl
        | 2, _ =>
          refine lv_tableIn (off := 140) (tgt := 172) hx hb dL_law_32 (by decide) (by decide) rfl (by decide) ?_
          exact law_case_2 hL C00 EC1 EC2 hIC hIM hdj s2 x3 hi1 hi2 hi3 σ τ hRel kk H locs ls hw hw2 hl
        | 3, _ =>
          refine lv_tableIn (off := 153) (tgt := 185) hx hb dL_law_32 (by decide) (by decide) rfl (by decide) ?_
          exact law_case_3 hL C00 EC1 EC2 hIC hIM hdj s3 x3 hi1 hi2 hi3 σ τ hRel kk H locs ls hw hw2 hl
        | 4, _ =>
          refine lv_tableIn (off := 166) (tgt := 198) hx hb dL_law_32 (by decide) (by decide) rfl (by decide) ?_
          exact law_case_4 hL C00 EC1 EC2 hIC hIM hdj s4 x3 hi1 hi2 hi3 σ τ hRel kk H locs ls hw hw2 hl
        | 5, _ =>
          refine lv_tableIn (off := 199) (tgt := 231) hx hb dL_law_32 (by decide) (by decide) rfl (by decide) ?_
          exact law_case_5 hL C00 EC1 EC2 hIC hIM hdj s5 x3 hi1 hi2 hi3 σ τ hRel kk H locs ls hw hw2 hl
        | 6, _ =>
          refine lv_tableIn (off := 232) (tgt := 264) hx hb dL_law_32 (by decide) (by decide) rfl (by decide) ?_
          exact law_case_6 hL C00 EC1 EC2 hIC hIM hdj s6 x3 hi1 hi2 hi3 σ τ hRel kk H locs ls hw hw2 hl
        | 7, _ =>
          refine lv_tableIn (off := 245) (tgt := 277) hx hb dL_law_32 (by decide) (by decide) rfl (by decide) ?_
          exact law_case_7 hL C00 EC1 EC2 hIC hIM hdj s7 x3 hi1 hi2 hi3 σ τ hRel kk H locs ls hw hw2 hl
        | 8, _ =>
          refine lv_tableIn (off := 258) (tgt := 290) hx hb dL_law_32 (by decide) (by decide) rfl (by decide) ?_
          exact law_case_8 hL C00 EC1 EC2 hIC hIM hdj s8 x3 hi1 hi2 hi3 σ τ hRel kk H locs ls hw hw2 hl
        | 9, _ =>
          refine lv_tableIn (off := 281) (tgt := 313) hx hb dL_law_32 (by decide) (by decide) rfl (by decide) ?_
          exact law_case_9 hL C00 EC1 EC2 hIC hIM hdj s9 x3 hi1 hi2 hi3 σ τ hRel kk H locs ls hw hw2 hl
        | 10, _ =>
          refine lv_tableIn (off := 294) (tgt := 326) hx hb dL_law_32 (by decide) (by decide) rfl (by decide) ?_
          exact law_case_10 hL C00 EC1 EC2 hIC hIM hdj s10 x3 hi1 hi2 hi3 σ τ hRel kk H locs ls hw hw2 hl
        | 11, _ =>
          refine lv_tableIn (off := 317) (tgt := 349) hx hb dL_law_32 (by decide) (by decide) rfl (by decide) ?_
          exact law_case_11 hL C00 EC1 EC2 hIC hIM hdj s11 x3 hi1 hi2 hi3 σ τ hRel kk H locs ls hw hw2 hl
        | 12, _ =>
          refine lv_tableIn (off := 340) (tgt := 372) hx hb dL_law_32 (by decide) (by decide) rfl (by decide) ?_
          exact law_case_12 hL C00 EC1 EC2 hIC hIM hdj s12 x3 hi1 hi2 hi3 σ τ hRel kk H locs ls hw hw2 hl
        | 13, _ =>
          refine lv_tableIn (off := 399) (tgt := 431) hx hb dL_law_32 (by decide) (by decide) rfl (by decide) ?_
          exact law_case_13 hL C00 EC1 EC2 hIC hIM hdj s13 x3 hi1 hi2 hi3 σ τ hRel kk H locs ls hw hw2 hl
        | 14, _ =>
          refine lv_tableIn (off := 422) (tgt := 454) hx hb dL_law_32 (by decide) (by decide) rfl (by decide) ?_
          exact law_case_14 hL C00 EC1 EC2 hIC hIM hdj s14 x3 hi1 hi2 hi3 σ τ hRel kk H locs ls hw hw2 hl
        | 15, _ =>
          refine lv_tableIn (off := 445) (tgt := 477) hx hb dL_law_32 (by decide) (by decide) rfl (by decide) ?_
          exact law_case_15 hL C00 EC1 EC2 hIC hIM hdj s15 x3 hi1 hi2 hi3 σ τ hRel kk H locs ls hw hw2 hl
        | 16, _ =>
          refine lv_tableIn (off := 478) (tgt := 510) hx hb dL_law_32 (by decide) (by decide) rfl (by decide) ?_
          exact law_case_16 hL C00 EC1 EC2 hIC hIM hdj s16 x3 hi1 hi2 hi3 σ τ hRel kk H locs ls hw hw2 hl
        | 17, _ =>
          refine lv_tableIn (off := 501) (tgt := 533) hx hb dL_law_32 (by decide) (by decide) rfl (by decide) ?_
          exact law_case_17 hL C00 EC1 EC2 hIC hIM hdj s17 x3 hi1 hi2 hi3 σ τ hRel kk H locs ls hw hw2 hl
        | 18, _ =>
          refine lv_tableIn (off := 524) (tgt := 556) hx hb dL_law_32 (by decide) (by decide) rfl (by decide) ?_
          exact law_case_18 hL C00 EC1 EC2 hIC hIM hdj s18 x3 hi1 hi2 hi3 σ τ hRel kk H locs ls hw hw2 hl
        | 19, _ =>
          refine lv_tableIn (off := 547) (tgt := 579) hx hb dL_law_32 (by decide) (by decide) rfl (by decide) ?_
          exact law_case_19 hL C00 EC1 EC2 hIC hIM hdj s19 x3 hi1 hi2 hi3 σ τ hRel kk H locs ls hw hw2 hl
        | 20, _ =>
          refine lv_tableIn (off := 560) (tgt := 592) hx hb dL_law_32 (by decide) (by decide) rfl (by decide) ?_
          exact law_case_20 hL C00 EC1 EC2 hIC hIM hdj s20 x3 hi1 hi2 hi3 σ τ hRel kk H locs ls hw hw2 hl
        | 21, _ =>
          refine lv_tableIn (off := 583) (tgt := 615) hx hb dL_law_32 (by decide) (by decide) rfl (by decide) ?_
          exact law_case_21 hL C00 EC1 EC2 hIC hIM hdj s21 x3 hi1 hi2 hi3 σ τ hRel kk H locs ls hw hw2 hl
        | k + 22, hk => exact absurd hk (by omega)
      · refine lv_tableOut (tgt := 629) hx hb dL_law_32 hz (by decide) ?_
        exact kk σ τ H locs ls hRel hw hw2 hl
