/-! THE START: from the law's entry to what lies behind its rows -/
theorem arr_known {s : State} {args : Array Value} {ty : FieldType} (hp : ∀ (cA : ClassId), s.vm.findClass ("[" ++ ty.toString) = some cA → va_RA s cA ty) (h : (Cond.arrayClass ty).before args s = true) : ∃ cA : ClassId, ArrOfT s cA ty ∧ va_RA s cA ty := by
  obtain ⟨cA, kA, comp, h1, h2, h3⟩ := Cond.arrayClass_spec h
  exact ⟨cA, fun n z => ⟨fun k h => (by cases h), kA, h2, comp, h3⟩, hp cA h1⟩
theorem adL_at {L : List Nat} {k a : Nat} (h : L[k]? = some a) : adL L k = a := by
  unfold adL
  rw [List.getD_eq_getElem?_getD, h]
  rfl
theorem amb_start {s : State} {args : Array Value} (hts : ∀ w ∈ lw_tbl, w.before args s = true) (hgv : (Jvm.Cond.and given_1 narrow_1).before args s = true) : Amb (fun q : Nat => s.heap.size ≤ q) s s.heap := by
  have hs := flat_of_before _ hgv
  have hA : ∀ a : Nat, a < s.heap.size → ¬ (fun q : Nat => s.heap.size ≤ q) a := fun a h => Nat.not_le.mpr h
  have hn : ∀ {w : Cond}, w.onTables = true → w ∈ lw_tbl → va_Nw w s := fun h1 h2 => va_Nw.of h1 (hts _ h2)
  have hi : (Cond.initialized "RingPuzzle").before args s = true := hts _ (gtbl_lw in_X6)
  have hB : ∃ t : Nat, (Term.static "RingPuzzle" "BECOMES" "[I").eval args s none [] s = some (.ref t) ∧ va_T .int t 8 t_bec (fun q : Nat => s.heap.size ≤ q) s s.heap := by
    refine va_Tof (by decide) (hs _ (by decide +kernel)) (va_eqt (z := 8) (hs _ (by decide +kernel))) (fun j hj => ?_) hA
    match j, hj with
    | 0, _ => exact va_eqt (z := 2) (hs _ (by decide +kernel))
    | 1, _ => exact va_eqt (z := 1) (hs _ (by decide +kernel))
    | 2, _ => exact va_eqt (z := 2) (hs _ (by decide +kernel))
    | 3, _ => exact va_eqt (z := 2) (hs _ (by decide +kernel))
    | 4, _ => exact va_eqt (z := 1) (hs _ (by decide +kernel))
    | 5, _ => exact va_eqt (z := 2) (hs _ (by decide +kernel))
    | 6, _ => exact va_eqt (z := 2) (hs _ (by decide +kernel))
    | 7, _ => exact va_eqt (z := 1) (hs _ (by decide +kernel))
    | j + 8, hj => exact absurd hj (by omega)
  obtain ⟨t1, b1, b2⟩ := hB
  exact ⟨hn rfl mn_X0_113, hn rfl mn_X0_127, hn rfl mn_X0_144, trivial, ⟨t1, va_Zof (hts _ ls_BECOMES) hi b1 hA, b2⟩, trivial, hn rfl mn_X6_9, hn rfl mn_X6_53, hn rfl mn_X6_60⟩
set_option maxHeartbeats 4000000 in
set_option maxRecDepth 100000 in
theorem known_K {s : State} {args : Array Value} (hts : ∀ w ∈ gtbl, w.before args s = true) : ∃ K : vK, va_K K.1 vwCl (tysK K) s := by
  obtain ⟨c0, i0, k0⟩ := u_known (C := RX0) (T := TX0) (N := 13) (n := 13) hts uw_X0 (hts _ ib_X0)
  obtain ⟨c1, i1, k1⟩ := u_known (C := RX1) (T := TX1) (N := 10) (n := 10) hts uw_X1 (hts _ ib_X1)
  obtain ⟨c2, i2, k2⟩ := u_known (C := RX2) (T := TX2) (N := 8) (n := 8) hts uw_X2 (hts _ ib_X2)
  obtain ⟨c3, i3, k3⟩ := u_known (C := RX3) (T := TX3) (N := 8) (n := 8) hts uw_X3 (hts _ ib_X3)
  obtain ⟨c4, i4, k4⟩ := u_known (C := RX4) (T := TX4) (N := 3) (n := 3) hts uw_X4 (hts _ ib_X4)
  obtain ⟨c5, i5, k5⟩ := u_known (C := RX5) (T := TX5) (N := 6) (n := 6) hts uw_X5 (hts _ ib_X5)
  obtain ⟨c6, i6, k6⟩ := u_known (C := RX6) (T := TX6) (N := 7) (n := 7) hts uw_X6 (hts _ ib_X6)
  obtain ⟨aI, a1, r1⟩ := arr_known (s := s) (ty := .int) (fun _ h => h) (hts _ ac_int)
  obtain ⟨aJ, a2, r2⟩ := arr_known (s := s) (ty := .long) (fun _ h => h) (hts _ ac_long)
  obtain ⟨aB, a3, r3⟩ := arr_known (s := s) (ty := .byte) (fun _ h => h) (hts _ ac_byte)
  refine ⟨((fun k => match k with | 0 => c0 | 1 => c1 | 2 => c2 | 3 => c3 | 4 => c4 | 5 => c5 | _ => c6, fun k => match k with | 0 => i0 | 1 => i1 | 2 => i2 | 3 => i3 | 4 => i4 | 5 => i5 | _ => i6), fun k => match k with | 0 => aI | 1 => aJ | _ => aB), fun k q hq => ?_, fun k q hq => ?_⟩
  · match k, hq with
    | 0, hq => cases hq; exact k0
    | 1, hq => cases hq; exact k1
    | 2, hq => cases hq; exact k2
    | 3, hq => cases hq; exact k3
    | 4, hq => cases hq; exact k4
    | 5, hq => cases hq; exact k5
    | 6, hq => cases hq; exact k6
    | k + 7, hq => simp [vwCl] at hq
  · match k, hq with
    | 0, hq => cases hq; exact ⟨a1, r1⟩
    | 1, hq => cases hq; exact ⟨a2, r2⟩
    | 2, hq => cases hq; exact ⟨a3, r3⟩
    | k + 3, hq => simp [tysK] at hq
theorem cC_31 (K : vK) (ad : Nat → Nat) (x k : Nat) (hk : k < 30) (f : Nat → Int32) (g : Nat → Int64) : cC K (fun j => if j = 30 then x else ad j) k f g = cC K ad k f g := by
  match k, hk with
  | 0, _ => rfl
  | 1, _ => rfl
  | 2, _ => rfl
  | 3, _ => rfl
  | 4, _ => rfl
  | 5, _ => rfl
  | 6, _ => rfl
  | 7, _ => rfl
  | 8, _ => rfl
  | 9, _ => rfl
  | 10, _ => rfl
  | 11, _ => rfl
  | 12, _ => rfl
  | 13, _ => rfl
  | 14, _ => rfl
  | 15, _ => rfl
  | 16, _ => rfl
  | 17, _ => rfl
  | 18, _ => rfl
  | 19, _ => rfl
  | 20, _ => rfl
  | 21, _ => rfl
  | 22, _ => rfl
  | 23, _ => rfl
  | 24, _ => rfl
  | 25, _ => rfl
  | 26, _ => rfl
  | 27, _ => rfl
  | 28, _ => rfl
  | 29, _ => rfl
  | k + 30, hk => exact absurd hk (by omega)
theorem wG_31 (K : vK) (ad : Nat → Nat) (σ : vSt) (x : Nat) : wG 30 ad (cC K ad) σ ++ [(x, .inl (K.2 0, 64, .inl (fun _ => 0)))] = wG 31 (fun j => if j = 30 then x else ad j) (cC K (fun j => if j = 30 then x else ad j)) (mergeS 30 σ st_0) := by
  apply List.ext_getElem?
  intro k
  by_cases h : k < 30
  · rw [List.getElem?_append_left (by rw [wG_len]; exact h), wG_at h, wG_at (Nat.lt_of_lt_of_le h (by decide)), cC_31 K ad x k h, mergeS_l1 _ _ h, mergeS_l2 _ _ h]
    show some (ad k, _) = some ((if k = 30 then x else ad k), _)
    rw [if_neg (by omega)]
  · rw [List.getElem?_append_right (by rw [wG_len]; omega), wG_len]
    by_cases h2 : k = 30
    · subst h2
      rw [wG_at (by decide)]
      rfl
    · rw [wG_no (by omega), List.getElem?_eq_none (by show 1 ≤ k - 30; omega)]
theorem m30_zC (σ : vSt) : mergeS 30 (mergeS 8 σ zC) st_0 = mergeS 8 σ zC := by
  unfold mergeS zC st_0
  refine Prod.ext (funext fun b => ?_) (funext fun b => ?_)
  · show (if b < 30 then (if b < 8 then σ.1 b else (if b = 6 then z_b else if b = 11 then z_b else if b = 13 then z_b else if b = 16 then z_b else fun _ => 0)) else (fun _ => 0)) = (if b < 8 then σ.1 b else (if b = 6 then z_b else if b = 11 then z_b else if b = 13 then z_b else if b = 16 then z_b else fun _ => 0))
    by_cases h : b < 30
    · rw [if_pos h]
    · rw [if_neg h, if_neg (by omega), if_neg (by omega), if_neg (by omega), if_neg (by omega), if_neg (by omega)]
  · show (if b < 30 then (if b < 8 then σ.2 b else (fun _ => 0)) else (fun _ => 0)) = (if b < 8 then σ.2 b else (fun _ => 0))
    by_cases h : b < 30
    · rw [if_pos h]
    · rw [if_neg h, if_neg (by omega)]
set_option maxHeartbeats 4000000 in
set_option maxRecDepth 100000 in
theorem law_start {p : Program} {e : Env} {s : State} {m : MethodId} {below : List Frame} {meth : Method} {c : Code} (l : Launch) {b L : Nat} {xs : Nat → Int32} (hL : L ≤ 260) (C0 : lw_At p s m meth c b L xs) {σ1 σ2 σ3 : vSt} {e1 : Int64} (h1 : f_X1_lay (3 : Int32) (3 : Int32) st_0 = some σ1) (h2 : f_X1_allEdges σ1 = some e1) (h3 : f_X0_begin 6 (0 : Int64) e1 (mergeS 6 σ1 zC) = some σ2) (h4 : f_L_law L xs (mergeS 8 σ2 zC) = some (1, σ3)) : W p l e room_1 s m #[Value.ref b] below meth c s.heap [] 0 0 (lw_Z below #[Value.ref b] s) (entryFrame m ([Value.ref b] : List Value).toArray 8) := by
  obtain ⟨hx, hb, hr, hml, hown, hts0, hX, hbl, hlocks, hgv⟩ := id C0
  have hts : ∀ w ∈ gtbl, w.before #[Value.ref b] s = true := fun w hw => hts0 w (gtbl_lw hw)
  obtain ⟨K, hK⟩ := known_K hts
  have hAm := amb_start hts0 hgv
  have hE : EK p s m #[Value.ref b] c code 8 R_law K (fun q : Nat => s.heap.size ≤ q) := ⟨hx, hb, hml, hown, hts, hK, fun _ h => h, hAm⟩
  have hbA : ¬ (fun q : Nat => s.heap.size ≤ q) b := Nat.not_le.mpr hbl
  have hS : va_S (fun q : Nat => s.heap.size ≤ q) s.heap s.heap [] := va_S.rf
  have hP : va_P K.1 vwCl [] s.heap := fun k q h => by simp at h
  have hD : va_D (fun q : Nat => s.heap.size ≤ q) [] := ⟨fun i j p q h => by simp at h, fun k q h => by simp at h⟩
  have hl := lv_entry ([.ref b]) (n := 8) (Nat.le_of_ble_eq_true rfl)
  rw [lg_entry_eq]
  generalize (lg_sl ([.ref b]) ++ List.replicate (8 - (lg_sl ([.ref b])).length) Slot.unset).toArray = ls at hl ⊢
  replace hl : lv_has ls 8 [(0, .ref b)] := hl
  refine n_obj (ci := 6) (fs := [.null, .null, .null, .null, .null, .null, .null]) (C := RX6) (T := TX6) (N := 7) hE hP hD hS uw_X6 tyX6_ok cl_L_55 ib_X6 in_X6 rfl (fun j hj => by rcases (show j = 0 ∨ j = 1 ∨ j = 2 ∨ j = 3 ∨ j = 4 ∨ j = 5 ∨ j = 6 by omega) with rfl | rfl | rfl | rfl | rfl | rfl | rfl <;> rfl) (Nat.le_of_ble_eq_true rfl) (Nat.le_of_ble_eq_true rfl) dL_law_0 (fun q0 H0 hP0 hD0 hS0 => ?_)
  refine W.widen (k := 1) (n := 7) (by omega) (by omega) ?_
  refine lv_dup hx hb dL_law_3 rfl ?_
  refine kI_v (As := []) (rest := [.ref q0]) (wr := []) hE hP0 hD0 hS0 (fun sz => c_X6_init l K q0 h1 h2 h3 sz) [0] [] rfl rfl rfl (by decide) mi_X6_init im_X6_init (hts _ ml_L_117) rfl rfl ⟨⟨Nat.le_of_ble_eq_true rfl, Nat.le_of_ble_eq_true rfl⟩, rfl, rfl⟩ ⟨Nat.le_of_ble_eq_true rfl, Nat.le_of_ble_eq_true rfl⟩ hl.1 rfl (Nat.le_of_ble_eq_true rfl) dL_law_4 (fun H2 locs2 ws9 hF hP2 hD2 hS2 => ?_)
  obtain ⟨LC, hLC, hC8, rfl⟩ := hF
  replace hP2 : va_P K.1 vwCl (wG 30 (adL LC) (cC K (adL LC)) (mergeS 8 σ2 zC)) H2 := hP2
  replace hD2 : va_D (fun q : Nat => s.heap.size ≤ q) (wG 30 (adL LC) (cC K (adL LC)) (mergeS 8 σ2 zC)) := hD2
  have eC := adL_at hC8
  subst eC
  generalize adL LC = ad at hP2 hD2 ⊢
  refine W.widen (k := 30) (n := 703) (by omega) (by omega) ?_
  refine lv_astore_n (lv' := [(1, .ref (ad 8)), (0, .ref b)]) hx hb dL_law_7 rfl hl (by decide) rfl (fun ls hl => ?_)
  refine lv_bipush (v := 64) hx hb dL_law_8 (by decide) ?_
  refine n_arr (at' := .int) (ty := .int) (j := 0) (a1 := .inl (fun _ => 0)) (N' := 64) rfl ac_int rfl ra_i (fun _ => rfl) hE hP2 hD2 hS2 (by decide) (by decide) (by decide) (Nat.le_of_ble_eq_true rfl) (Nat.le_of_ble_eq_true rfl) dL_law_10 (fun x H hP1 hD1 hS1 => ?_)
  have hxA : s.heap.size ≤ x := hD1.2 30 (x, .inl (K.2 0, 64, .inl (fun _ => 0))) (by rw [List.getElem?_append_right (by rw [wG_len]; exact Nat.le_refl _), wG_len]; rfl)
  have hxne : ∀ k, k < 30 → ad k ≠ x := fun k hk => vD_x hD1 (wG_at hk) (j := 0) (q := (x, .inl (K.2 0, 64, .inl (fun _ => 0)))) rfl
  have hIC : adInj 30 ad := adInj_of hD2
  have hAC : ∀ k, k < 30 → s.heap.size ≤ ad k := fun k hk => hD2.2 k _ (wG_at hk)
  rw [wG_31] at hP1
  obtain ⟨ad', ead⟩ : ∃ ad' : Nat → Nat, ad' = fun j => if j = 30 then x else ad j := ⟨_, rfl⟩
  have e30 : ad' 30 = x := by rw [ead]; rfl
  have elt : ∀ k, k < 30 → ad' k = ad k := fun k hk => by rw [ead]; exact if_neg (by omega)
  rw [← ead] at hP1
  clear ead
  have hI' : adInj 31 ad' := by
    intro i j hi hj hij
    by_cases h1 : i = 30
    · by_cases h2 : j = 30
      · rw [h1, h2]
      · rw [h1, e30, elt j (by omega)] at hij
        exact absurd hij.symm (hxne j (by omega))
    · by_cases h2 : j = 30
      · rw [h2, e30, elt i (by omega)] at hij
        exact absurd hij (hxne i (by omega))
      · rw [elt i (by omega), elt j (by omega)] at hij
        exact hIC i j (by omega) (by omega) hij
  have hA' : ∀ k, k < 31 → s.heap.size ≤ ad' k := by
    intro k hk
    by_cases h1 : k = 30
    · rw [h1, e30]; exact hxA
    · rw [elt k (by omega)]; exact hAC k (by omega)
  have E2 : EC p s m #[Value.ref b] c code 8 gtbl RL K 31 ad' (cC K ad') (fun q : Nat => s.heap.size ≤ q) := by
    refine ⟨hx, hb, hml, hown, hts, hK, wG_D hI' hA', fun q => ⟨fun h => Or.inr h, fun h => ?_⟩, hAm⟩
    rcases h with ⟨k, hk, rfl⟩ | h
    · exact hA' k hk
    · exact h
  have e8 : ad 8 = ad' 8 := (elt 8 (by decide)).symm
  refine W.widen (k := 31) (n := 768) (by omega) (by omega) ?_
  refine lv_astore_n (lv' := [(2, .ref x), (1, .ref (ad 8)), (0, .ref b)]) hx hb dL_law_12 rfl hl (by decide) rfl (fun ls hl => ?_)
  rw [← e30, e8] at hl
  have h4' : f_L_law L xs (mergeS 30 (mergeS 8 σ2 zC) st_0) = some (1, σ3) := by rw [m30_zC]; exact h4
  refine c_L_law (r := 1) (σ' := σ3) hI' E2 ⟨hX, hL⟩ hbl hbA (fun {H2 locs2 pc2 ls2 v σ1} hw h1 h2 hz hdg => ?_) H _ ls ⟨hP1, hS1⟩ hl h4'
  subst h1
  refine va_forget (fun q hq => hw.2.2.2 q hq) ?_
  exact lw_ret hx hb hr hlocks hdg
