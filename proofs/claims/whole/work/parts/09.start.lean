/-! THE START: from the law's entry to its loop -/
abbrev fsX7 : List Value := [.null, .null, .int 0, .null, .int 0, .null, .null, .null, .int 0, .int 0, .int 0, .int 0, .int 0, .int 0, .int 0, .int 0, .int 0, .null, .null, .int 0, .int 0, .int 0, .int 0, .null, .null, .null, .int 0, .int 0, .int 0, .long 0]
theorem FSX7 : ∀ j, j < 30 → defaultValue (tyX7 j) = vp_V fsX7 j := by
  intro j hj
  rcases (show j = 0 ∨ j = 1 ∨ j = 2 ∨ j = 3 ∨ j = 4 ∨ j = 5 ∨ j = 6 ∨ j = 7 ∨ j = 8 ∨ j = 9 ∨ j = 10 ∨ j = 11 ∨ j = 12 ∨ j = 13 ∨ j = 14 ∨ j = 15 ∨ j = 16 ∨ j = 17 ∨ j = 18 ∨ j = 19 ∨ j = 20 ∨ j = 21 ∨ j = 22 ∨ j = 23 ∨ j = 24 ∨ j = 25 ∨ j = 26 ∨ j = 27 ∨ j = 28 ∨ j = 29 by omega) with rfl | rfl | rfl | rfl | rfl | rfl | rfl | rfl | rfl | rfl | rfl | rfl | rfl | rfl | rfl | rfl | rfl | rfl | rfl | rfl | rfl | rfl | rfl | rfl | rfl | rfl | rfl | rfl | rfl | rfl <;> rfl
theorem vP_l {D : va_G} {cl : List vw_C} {a b : va_W} {H : Heap} (h : va_P D cl (a ++ b) H) : va_P D cl a H := fun k q hq => h k q (by rw [List.getElem?_append_left (List.getElem?_eq_some_iff.mp hq).1]; exact hq)
theorem vP_r {D : va_G} {cl : List vw_C} {a b : va_W} {H : Heap} (h : va_P D cl (a ++ b) H) : va_P D cl b H := fun k q hq => h (a.length + k) q (by rw [List.getElem?_append_right (by omega), Nat.add_sub_cancel_left]; exact hq)
theorem vD_l {A : Nat → Prop} {a b : va_W} (h : va_D A (a ++ b)) : va_D A a := ⟨fun i j p q hp hq hpq => h.1 i j p q (by rw [List.getElem?_append_left (List.getElem?_eq_some_iff.mp hp).1]; exact hp) (by rw [List.getElem?_append_left (List.getElem?_eq_some_iff.mp hq).1]; exact hq) hpq, fun k q hq => h.2 k q (by rw [List.getElem?_append_left (List.getElem?_eq_some_iff.mp hq).1]; exact hq)⟩
theorem vD_r {A : Nat → Prop} {a b : va_W} (h : va_D A (a ++ b)) : va_D A b := by
  refine ⟨fun i j p q hp hq hpq => ?_, fun k q hq => h.2 (a.length + k) q (by rw [List.getElem?_append_right (by omega), Nat.add_sub_cancel_left]; exact hq)⟩
  have := h.1 (a.length + i) (a.length + j) p q (by rw [List.getElem?_append_right (by omega), Nat.add_sub_cancel_left]; exact hp) (by rw [List.getElem?_append_right (by omega), Nat.add_sub_cancel_left]; exact hq) hpq
  omega
theorem vD_x {A : Nat → Prop} {a b : va_W} (h : va_D A (a ++ b)) {i j : Nat} {p q : Nat × va_E} (hp : a[i]? = some p) (hq : b[j]? = some q) : p.1 ≠ q.1 := by
  intro hpq
  have hi := (List.getElem?_eq_some_iff.mp hp).1
  have := h.1 i (a.length + j) p q (by rw [List.getElem?_append_left hi]; exact hp) (by rw [List.getElem?_append_right (by omega), Nat.add_sub_cancel_left]; exact hq) hpq
  omega
theorem arr_known {s : State} {args : Array Value} {ty : FieldType} (hp : ∀ (cA : ClassId), s.vm.findClass ("[" ++ ty.toString) = some cA → va_RA s cA ty) (h : (Cond.arrayClass ty).before args s = true) : ∃ cA : ClassId, ArrOfT s cA ty ∧ va_RA s cA ty := by
  obtain ⟨cA, kA, comp, h1, h2, h3⟩ := Cond.arrayClass_spec h
  exact ⟨cA, fun n z => ⟨fun k h => (by cases h), kA, h2, comp, h3⟩, hp cA h1⟩
theorem adL_at {L : List Nat} {k a : Nat} (h : L[k]? = some a) : adL L k = a := by
  unfold adL
  rw [List.getD_eq_getElem?_getD, h]
  rfl
theorem amb_start {s : State} {args : Array Value} (hts : ∀ w ∈ lw_tbl, w.before args s = true) (hgv : (Jvm.Cond.and given_1 narrow_1).before args s = true) : Amb (fun q : Nat => s.heap.size ≤ q) s s.heap := by
  have hs := flat_of_before _ hgv
  have hA : ∀ a : Nat, a < s.heap.size → ¬ (fun q : Nat => s.heap.size ≤ q) a := fun a h => Nat.not_le.mpr h
  have hn : ∀ {w : Cond}, w.onTables = true → w ∈ lw_tbl → va_Nw w s := fun h1 h2 => va_Nw.of h1 (hts _ h2)
  have hi : (Cond.initialized "RingPuzzle").before args s = true := hts _ (gtbl_lw in_X6)
  have hB : ∃ t : Nat, (Term.static "RingPuzzle" "BECOMES" "[I").eval args s none [] s = some (.ref t) ∧ va_T .int t 8 t_bec (fun q : Nat => s.heap.size ≤ q) s s.heap := by
    refine va_Tof (by decide) (hs _ (by decide +kernel)) (va_eqt (z := 8) (hs _ (by decide +kernel))) (fun j hj => ?_) hA
    match j, hj with
    | 0, _ => exact va_eqt (z := 2) (hs _ (by decide +kernel))
    | 1, _ => exact va_eqt (z := 1) (hs _ (by decide +kernel))
    | 2, _ => exact va_eqt (z := 2) (hs _ (by decide +kernel))
    | 3, _ => exact va_eqt (z := 2) (hs _ (by decide +kernel))
    | 4, _ => exact va_eqt (z := 1) (hs _ (by decide +kernel))
    | 5, _ => exact va_eqt (z := 2) (hs _ (by decide +kernel))
    | 6, _ => exact va_eqt (z := 2) (hs _ (by decide +kernel))
    | 7, _ => exact va_eqt (z := 1) (hs _ (by decide +kernel))
    | j + 8, hj => exact absurd hj (by omega)
  have hG : ∃ t : Nat, (Term.static "RingPuzzle" "GRADES" "[I").eval args s none [] s = some (.ref t) ∧ va_T .int t 8 t_gra (fun q : Nat => s.heap.size ≤ q) s s.heap := by
    refine va_Tof (by decide) (hs _ (by decide +kernel)) (va_eqt (z := 8) (hs _ (by decide +kernel))) (fun j hj => ?_) hA
    match j, hj with
    | 0, _ => exact va_eqt (z := 1) (hs _ (by decide +kernel))
    | 1, _ => exact va_eqt (z := 1) (hs _ (by decide +kernel))
    | 2, _ => exact va_eqt (z := 1) (hs _ (by decide +kernel))
    | 3, _ => exact va_eqt (z := 2) (hs _ (by decide +kernel))
    | 4, _ => exact va_eqt (z := 2) (hs _ (by decide +kernel))
    | 5, _ => exact va_eqt (z := 3) (hs _ (by decide +kernel))
    | 6, _ => exact va_eqt (z := 4) (hs _ (by decide +kernel))
    | 7, _ => exact va_eqt (z := 4) (hs _ (by decide +kernel))
    | j + 8, hj => exact absurd hj (by omega)
  obtain ⟨t1, b1, b2⟩ := hB
  obtain ⟨t2, g1, g2⟩ := hG
  exact ⟨hn rfl mn_X0_113, hn rfl mn_X0_127, hn rfl mn_X0_144, hn rfl mn_X4_82, ⟨t1, va_Zof (hts _ ls_BECOMES) hi b1 hA, b2⟩, ⟨t2, va_Zof (hts _ ls_GRADES) hi g1 hA, g2⟩, hn rfl mn_X6_9, hn rfl mn_X6_53, hn rfl mn_X6_60⟩
set_option maxHeartbeats 4000000 in
set_option maxRecDepth 100000 in
theorem known_K {s : State} {args : Array Value} (hts : ∀ w ∈ gtbl, w.before args s = true) : ∃ K : vK, va_K K.1 vwCl (tysK K) s := by
  obtain ⟨c0, i0, k0⟩ := u_known (C := RX0) (T := TX0) (N := 13) (n := 13) hts uw_X0 (hts _ ib_X0)
  obtain ⟨c1, i1, k1⟩ := u_known (C := RX1) (T := TX1) (N := 10) (n := 10) hts uw_X1 (hts _ ib_X1)
  obtain ⟨c2, i2, k2⟩ := u_known (C := RX2) (T := TX2) (N := 8) (n := 8) hts uw_X2 (hts _ ib_X2)
  obtain ⟨c3, i3, k3⟩ := u_known (C := RX3) (T := TX3) (N := 8) (n := 8) hts uw_X3 (hts _ ib_X3)
  obtain ⟨c4, i4, k4⟩ := u_known (C := RX4) (T := TX4) (N := 3) (n := 3) hts uw_X4 (hts _ ib_X4)
  obtain ⟨c5, i5, k5⟩ := u_known (C := RX5) (T := TX5) (N := 6) (n := 6) hts uw_X5 (hts _ ib_X5)
  obtain ⟨c6, i6, k6⟩ := u_known (C := RX6) (T := TX6) (N := 7) (n := 7) hts uw_X6 (hts _ ib_X6)
  obtain ⟨c7, i7, k7⟩ := u_known (C := RX7) (T := TX7) (N := 30) (n := 30) hts uw_X7 (hts _ ib_X7)
  obtain ⟨aI, a1, r1⟩ := arr_known (s := s) (ty := .int) (fun _ h => h) (hts _ ac_int)
  obtain ⟨aJ, a2, r2⟩ := arr_known (s := s) (ty := .long) (fun _ h => h) (hts _ ac_long)
  obtain ⟨aB, a3, r3⟩ := arr_known (s := s) (ty := .byte) (fun _ h => h) (hts _ ac_byte)
  obtain ⟨aZ, a4, r4⟩ := arr_known (s := s) (ty := .boolean) (fun _ h => h) (hts _ ac_boolean)
  refine ⟨((fun k => match k with | 0 => c0 | 1 => c1 | 2 => c2 | 3 => c3 | 4 => c4 | 5 => c5 | 6 => c6 | _ => c7, fun k => match k with | 0 => i0 | 1 => i1 | 2 => i2 | 3 => i3 | 4 => i4 | 5 => i5 | 6 => i6 | _ => i7), fun k => match k with | 0 => aI | 1 => aJ | 2 => aB | _ => aZ), fun k q hq => ?_, fun k q hq => ?_⟩
  · match k, hq with
    | 0, hq => cases hq; exact k0
    | 1, hq => cases hq; exact k1
    | 2, hq => cases hq; exact k2
    | 3, hq => cases hq; exact k3
    | 4, hq => cases hq; exact k4
    | 5, hq => cases hq; exact k5
    | 6, hq => cases hq; exact k6
    | 7, hq => cases hq; exact k7
    | k + 8, hq => simp [vwCl] at hq
  · match k, hq with
    | 0, hq => cases hq; exact ⟨a1, r1⟩
    | 1, hq => cases hq; exact ⟨a2, r2⟩
    | 2, hq => cases hq; exact ⟨a3, r3⟩
    | 3, hq => cases hq; exact ⟨a4, r4⟩
    | k + 4, hq => simp [tysK] at hq
set_option maxHeartbeats 4000000 in
set_option maxRecDepth 100000 in
theorem law_start {p : Program} {e : Env} {s : State} {m : MethodId} {below : List Frame} {meth : Method} {c : Code} (l : Launch) {b L : Nat} {xs : Nat → Int32} (hL : L ≤ 2048) (C0 : lw_At p s m meth c b L xs) {Rel : vSt → vSt → Prop} {σ1 σ2 τ1 : vSt} {e1 : Int64} (h1 : f_X1_lay (3 : Int32) (3 : Int32) st_0 = some σ1) (h2 : f_X1_allEdges σ1 = some e1) (h3 : f_X0_begin 6 (0 : Int64) e1 (mergeS 6 σ1 zC) = some σ2) (h4 : f_X7_tail st_0 = some τ1) (hR : Rel (mergeS 8 σ2 zC) τ1) (hSt : LawSteps Rel) : W p l e room_1 s m #[Value.ref b] below meth c s.heap [] 0 0 (lw_Z below #[Value.ref b] s) (entryFrame m ([Value.ref b] : List Value).toArray 4) := by
  obtain ⟨hx, hb, hr, hml, hown, hts0, hX, hbl, hlocks, hgv⟩ := id C0
  have hts : ∀ w ∈ gtbl, w.before #[Value.ref b] s = true := fun w hw => hts0 w (gtbl_lw hw)
  obtain ⟨K, hK⟩ := known_K hts
  have hAm := amb_start hts0 hgv
  have hE : EK p s m #[Value.ref b] c code 4 R_law K (fun q : Nat => s.heap.size ≤ q) := ⟨hx, hb, hml, hown, hts, hK, fun _ h => h, hAm⟩
  have hS : va_S (fun q : Nat => s.heap.size ≤ q) s.heap s.heap [] := va_S.rf
  have hP : va_P K.1 vwCl [] s.heap := fun k q h => by simp at h
  have hD : va_D (fun q : Nat => s.heap.size ≤ q) [] := ⟨fun i j p q h => by simp at h, fun k q h => by simp at h⟩
  have hl := lv_entry ([.ref b]) (n := 4) (Nat.le_of_ble_eq_true rfl)
  rw [lg_entry_eq]
  generalize (lg_sl ([.ref b]) ++ List.replicate (4 - (lg_sl ([.ref b])).length) Slot.unset).toArray = ls at hl ⊢
  replace hl : lv_has ls 4 [(0, .ref b)] := hl
  refine n_obj (ci := 6) (fs := [.null, .null, .null, .null, .null, .null, .null]) (C := RX6) (T := TX6) (N := 7) hE hP hD hS uw_X6 tyX6_ok cl_L_7 ib_X6 in_X6 rfl (fun j hj => by rcases (show j = 0 ∨ j = 1 ∨ j = 2 ∨ j = 3 ∨ j = 4 ∨ j = 5 ∨ j = 6 by omega) with rfl | rfl | rfl | rfl | rfl | rfl | rfl <;> rfl) (Nat.le_of_ble_eq_true rfl) (Nat.le_of_ble_eq_true rfl) dL_law_0 (fun q0 H0 hP0 hD0 hS0 => ?_)
  refine W.widen (k := 1) (n := 7) (by omega) (by omega) ?_
  refine lv_dup hx hb dL_law_3 rfl ?_
  refine kI_v (As := []) (rest := [.ref q0]) (wr := []) hE hP0 hD0 hS0 (fun sz => c_X6_init l K q0 h1 h2 h3 sz) [0] [] rfl rfl rfl (by decide) mi_X6_init im_X6_init (hts _ ml_L_9) rfl rfl ⟨⟨Nat.le_of_ble_eq_true rfl, Nat.le_of_ble_eq_true rfl⟩, rfl, rfl⟩ ⟨Nat.le_of_ble_eq_true rfl, Nat.le_of_ble_eq_true rfl⟩ hl.1 rfl (Nat.le_of_ble_eq_true rfl) dL_law_4 (fun H2 locs2 ws9 hF hP2 hD2 hS2 => ?_)
  obtain ⟨LC, hLC, hC8, rfl⟩ := hF
  replace hP2 : va_P K.1 vwCl (wG 30 (adL LC) (cC K (adL LC)) (mergeS 8 σ2 zC)) H2 := hP2
  replace hD2 : va_D (fun q : Nat => s.heap.size ≤ q) (wG 30 (adL LC) (cC K (adL LC)) (mergeS 8 σ2 zC)) := hD2
  have eC := adL_at hC8
  subst eC
  generalize adL LC = adC at hP2 hD2 ⊢
  refine W.widen (k := 30) (n := 703) (by omega) (by omega) ?_
  refine lv_astore_n (lv' := [(1, .ref (adC 8)), (0, .ref b)]) hx hb dL_law_7 rfl hl (by decide) rfl (fun ls hl => ?_)
  refine n_obj (ci := 7) (fs := fsX7) (C := RX7) (T := TX7) (N := 30) hE hP2 hD2 hS2 uw_X7 tyX7_ok cl_L_10 ib_X7 in_X7 rfl (fun j hj => FSX7 j hj) (Nat.le_of_ble_eq_true rfl) (Nat.le_of_ble_eq_true rfl) dL_law_8 (fun q1 H1 hP1 hD1 hS1 => ?_)
  refine W.widen (k := 31) (n := 733) (by omega) (by omega) ?_
  refine lv_dup hx hb dL_law_11 rfl ?_
  refine kI_v (As := []) (rest := [.ref q1]) (wr := wG 30 adC (cC K adC) (mergeS 8 σ2 zC)) hE hP1 hD1 hS1 (fun sz => c_X7_init l K q1 h4 sz) [30] [0, 1, 2, 3, 4, 5, 6, 7, 8, 9, 10, 11, 12, 13, 14, 15, 16, 17, 18, 19, 20, 21, 22, 23, 24, 25, 26, 27, 28, 29] rfl rfl rfl (by decide) mi_X7_init im_X7_init (hts _ ml_L_12) rfl rfl ⟨⟨Nat.le_of_ble_eq_true rfl, Nat.le_of_ble_eq_true rfl⟩, rfl, rfl⟩ ⟨Nat.le_of_ble_eq_true rfl, Nat.le_of_ble_eq_true rfl⟩ hl.1 rfl (Nat.le_of_ble_eq_true rfl) dL_law_12 (fun H3 locs3 ws9 hF hP3 hD3 hS3 => ?_)
  obtain ⟨LM, hLM, hM0, rfl⟩ := hF
  have eM := adL_at hM0
  subst eM
  generalize adL LM = adM at hP3 hD3 ⊢
  have hPC := vP_l hP3
  have hPM := vP_r hP3
  have hDC := vD_l hD3
  have hDM := vD_r hD3
  have hdj : ∀ i j, i < 12 → j < 30 → adM i ≠ adC j := fun i j hi hj h => vD_x hD3 (wG_at hj) (wG_at hi) h.symm
  have hIC := adInj_of hDC
  have hIM := adInj_of hDM
  have EC1 : EC p s m #[Value.ref b] c code 4 gtbl R_law K 30 adC (cC K adC) (fun q : Nat => s.heap.size ≤ q) := by
    refine ⟨hx, hb, hml, hown, hts, hK, wG_D hIC (fun k hk => hDC.2 k _ (wG_at hk)), fun q => ⟨fun h => Or.inr h, fun h => ?_⟩, hAm⟩
    rcases h with ⟨k, hk, rfl⟩ | h
    · exact hDC.2 k _ (wG_at hk)
    · exact h
  have EC2 : EC p s m #[Value.ref b] c code 4 gtbl R_law K 12 adM (cM K adM) (fun q : Nat => s.heap.size ≤ q) := by
    refine ⟨hx, hb, hml, hown, hts, hK, wG_D hIM (fun k hk => hDM.2 k _ (wG_at hk)), fun q => ⟨fun h => Or.inr h, fun h => ?_⟩, hAm⟩
    rcases h with ⟨k, hk, rfl⟩ | h
    · exact hDM.2 k _ (wG_at hk)
    · exact h
  refine W.widen (k := 42) (n := 3498) (by omega) (by omega) ?_
  refine lv_astore_n (lv' := [(2, .ref (adM 0)), (1, .ref (adC 8)), (0, .ref b)]) hx hb dL_law_15 rfl hl (by decide) rfl (fun ls hl => ?_)
  refine lv_iconst (v := 0) hx hb dL_law_16 (by decide) ?_
  refine lv_istore_n (lv' := [(3, .int 0), (2, .ref (adM 0)), (1, .ref (adC 8)), (0, .ref b)]) hx hb dL_law_17 rfl hl (by decide) rfl (fun ls hl => ?_)
  exact law_loop hL C0 EC1 EC2 hIC hIM hdj hSt (L + 4) 0 0 (by omega) (by omega) rfl _ _ hR H3 locs3 ls ⟨hPC, hS3⟩ ⟨hPM, hS3⟩ (lv_sub hl [3, 2, 1, 0] rfl)
