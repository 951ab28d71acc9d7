set_option maxHeartbeats 4000000 in
set_option maxRecDepth 100000 in
theorem c_X7_nodes (l : Launch) (K : vK) (ad : Nat → Nat) (hI : adInj 12 ad) (l1 : Int32) (σ : vSt) {r : Int32} {σ' : vSt} (h : f_X7_nodes l1 σ = some (r, σ')) : MCi l yX7_nodes (wsY yX7_nodes cX7_nodes 2 (some .int)) (rmF 10 205) K 12 ad (cM K ad) [.ref (ad 0), .int l1] σ r σ' := by
  refine MCi_of (own := RX7) (plainFor_of_name (by decide)) hI rfl (Nat.le_of_ble_eq_true rfl) ?_
  intro p e s m args below meth c A Q hx_E hE H locs ls hw hl
  have hx := hx_E.1; have hb := hx_E.2.1; have hown := hx_E.2.2.2.1; have hts := hx_E.2.2.2.2.1
  replace hl : lv_has ls 2 [(0, .ref (ad 0)), (1, .int l1)] := hl
  unfold f_X7_nodes at h
  refine lv_iload_n hx hb dX7_nodes_0 rfl (lv_at hl 1 rfl) ?_
  refine lv_iconst (v := 1) hx hb dX7_nodes_1 (by decide) ?_
  refine lv_bipush (v := 20) hx hb dX7_nodes_2 (by decide) ?_
  obtain ⟨v1, k2, h⟩ := it_b h
  refine kS_z (As := [.int l1, .int (1 : Int32), .int (20 : Int32)]) (rest := []) hx_E hw (c_X7_in l K l1 (1 : Int32) (20 : Int32) k2) mi_X7_in sm_X7_in ml_X7_162 rfl ⟨⟨Nat.le_of_ble_eq_true rfl, Nat.le_of_ble_eq_true rfl⟩, rfl, rfl⟩ ⟨Nat.zero_le _, Nat.zero_le _⟩ hl.1 rfl (Nat.le_of_ble_eq_true rfl) dX7_nodes_4 (fun z3 H locs hw => ?_)
  refine lv_if_ne (tgt := 13) hx hb dX7_nodes_7 (by decide) (fun c4 => ?_) (fun c4 => ?_)
  · replace h := it_f c4 h
    refine lv_aload_n hx hb dX7_nodes_13 rfl (lv_at hl 0 rfl) ?_
    refine lv_iload_n hx hb dX7_nodes_14 rfl (lv_at hl 1 rfl) ?_
    obtain ⟨σ5, k6, h⟩ := it_b h
    refine kV_v (As := [.int l1]) (rest := []) (q := 0) hx_E hw (c_X7_searches l K ad hI  l1 σ k6) mi_X7_searches mv_X7_searches ml_X7_218 (by decide) rfl rfl rfl ⟨⟨Nat.le_of_ble_eq_true rfl, Nat.le_of_ble_eq_true rfl⟩, rfl, rfl⟩ ⟨Nat.zero_le _, Nat.zero_le _⟩ hl.1 rfl (Nat.le_of_ble_eq_true rfl) dX7_nodes_15 (fun H locs hw => ?_)
    refine lv_aload_n hx hb dX7_nodes_18 rfl (lv_at hl 0 rfl) ?_
    refine gM_0_28 hx_E hw fl_X7_205 dX7_nodes_19 ?_
    refine lv_if_eq (tgt := 31) hx hb dX7_nodes_22 (by decide) (fun c7 => ?_) (fun c7 => ?_)
    · replace h := it_t c7 h
      refine lv_aload_n hx hb dX7_nodes_31 rfl (lv_at hl 0 rfl) ?_
      refine gM_0_26 hx_E hw fl_X7_202 dX7_nodes_32 ?_
      exact hE hw (congrArg Prod.fst (Option.some.inj h)) (congrArg Prod.snd (Option.some.inj h)) dX7_nodes_35
    · replace h := it_f c7 h
      refine lv_sipush (v := -200) hx hb dX7_nodes_25 (by decide) ?_
      refine lv_goto (tgt := 35) hx hb dX7_nodes_28 (by decide) ?_
      exact hE hw (congrArg Prod.fst (Option.some.inj h)) (congrArg Prod.snd (Option.some.inj h)) dX7_nodes_35
  · replace h := it_t c4 h
    refine lv_bipush (v := -2) hx hb dX7_nodes_10 (by decide) ?_
    exact hE hw (congrArg Prod.fst (Option.some.inj h)) (congrArg Prod.snd (Option.some.inj h)) dX7_nodes_12
set_option maxHeartbeats 4000000 in
set_option maxRecDepth 100000 in
theorem c_X7_solved (l : Launch) (K : vK) (ad : Nat → Nat) (hI : adInj 12 ad) (l1 : Int32) (σ : vSt) {r : Int32} {σ' : vSt} (h : f_X7_solved l1 σ = some (r, σ')) : MCi l yX7_solved (wsY yX7_solved cX7_solved 2 (some .int)) (rmF 10 205) K 12 ad (cM K ad) [.ref (ad 0), .int l1] σ r σ' := by
  refine MCi_of (own := RX7) (plainFor_of_name (by decide)) hI rfl (Nat.le_of_ble_eq_true rfl) ?_
  intro p e s m args below meth c A Q hx_E hE H locs ls hw hl
  have hx := hx_E.1; have hb := hx_E.2.1; have hown := hx_E.2.2.2.1; have hts := hx_E.2.2.2.2.1
  replace hl : lv_has ls 2 [(0, .ref (ad 0)), (1, .int l1)] := hl
  unfold f_X7_solved at h
  refine lv_iload_n hx hb dX7_solved_0 rfl (lv_at hl 1 rfl) ?_
  refine lv_iconst (v := 0) hx hb dX7_solved_1 (by decide) ?_
  refine lv_aload_n hx hb dX7_solved_2 rfl (lv_at hl 0 rfl) ?_
  obtain ⟨v1, k2, h⟩ := it_b h
  refine kV_i (As := []) (rest := [.int (0 : Int32), .int l1]) (q := 0) hx_E hw (c_X7_edges l K ad hI   σ k2) mi_X7_edges mv_X7_edges ml_X7_69 (by decide) rfl rfl rfl ⟨⟨Nat.le_of_ble_eq_true rfl, Nat.le_of_ble_eq_true rfl⟩, rfl, rfl⟩ ⟨Nat.zero_le _, Nat.zero_le _⟩ hl.1 rfl (Nat.le_of_ble_eq_true rfl) dX7_solved_3 (fun H locs hw => ?_)
  refine lv_iconst (v := 1) hx hb dX7_solved_6 (by decide) ?_
  refine lv_isub hx hb dX7_solved_7 ?_
  obtain ⟨v3, k4, h⟩ := it_b h
  refine kS_z (As := [.int l1, .int (0 : Int32), .int (v1 - (1 : Int32))]) (rest := []) hx_E hw (c_X7_in l K l1 (0 : Int32) (v1 - (1 : Int32)) k4) mi_X7_in sm_X7_in ml_X7_162 rfl ⟨⟨Nat.le_of_ble_eq_true rfl, Nat.le_of_ble_eq_true rfl⟩, rfl, rfl⟩ ⟨Nat.zero_le _, Nat.zero_le _⟩ hl.1 rfl (Nat.le_of_ble_eq_true rfl) dX7_solved_8 (fun z5 H locs hw => ?_)
  refine lv_if_ne (tgt := 17) hx hb dX7_solved_11 (by decide) (fun c6 => ?_) (fun c6 => ?_)
  · replace h := it_f c6 h
    refine lv_aload_n hx hb dX7_solved_17 rfl (lv_at hl 0 rfl) ?_
    refine lv_iconst (v := 1) hx hb dX7_solved_18 (by decide) ?_
    obtain ⟨σ7, k8, h⟩ := it_b h
    refine kV_v (As := [.int (1 : Int32)]) (rest := []) (q := 0) hx_E hw (c_X7_searches l K ad hI  (1 : Int32) σ k8) mi_X7_searches mv_X7_searches ml_X7_218 (by decide) rfl rfl rfl ⟨⟨Nat.le_of_ble_eq_true rfl, Nat.le_of_ble_eq_true rfl⟩, rfl, rfl⟩ ⟨Nat.zero_le _, Nat.zero_le _⟩ hl.1 rfl (Nat.le_of_ble_eq_true rfl) dX7_solved_19 (fun H locs hw => ?_)
    refine lv_aload_n hx hb dX7_solved_22 rfl (lv_at hl 0 rfl) ?_
    refine gM_0_27 hx_E hw fl_X7_199 dX7_solved_23 ?_
    refine lv_if_ne (tgt := 33) hx hb dX7_solved_26 (by decide) (fun c9 => ?_) (fun c9 => ?_)
    · replace h := it_f c9 h
      refine lv_aload_n hx hb dX7_solved_33 rfl (lv_at hl 0 rfl) ?_
      refine gM_0_25 hx_E hw fl_X7_41 dX7_solved_34 ?_
      refine lv_iload_n hx hb dX7_solved_37 rfl (lv_at hl 1 rfl) ?_
      obtain ⟨g10, h⟩ := it_g h
      refine aM_11 hx_E hw g10 dX7_solved_38 ?_
      exact hE hw (congrArg Prod.fst (Option.some.inj h)) (congrArg Prod.snd (Option.some.inj h)) dX7_solved_39
    · replace h := it_t c9 h
      refine lv_iconst (v := -1) hx hb dX7_solved_29 (by decide) ?_
      refine lv_goto (tgt := 39) hx hb dX7_solved_30 (by decide) ?_
      exact hE hw (congrArg Prod.fst (Option.some.inj h)) (congrArg Prod.snd (Option.some.inj h)) dX7_solved_39
  · replace h := it_t c6 h
    refine lv_bipush (v := -2) hx hb dX7_solved_14 (by decide) ?_
    exact hE hw (congrArg Prod.fst (Option.some.inj h)) (congrArg Prod.snd (Option.some.inj h)) dX7_solved_16
set_option maxHeartbeats 4000000 in
set_option maxRecDepth 100000 in
theorem c_X7_gradeOf (l : Launch) (K : vK) (l0 : Int32) {r : Int32} (h : f_X7_gradeOf l0 = some r) : MCi l yX7_gradeOf (wsY yX7_gradeOf cX7_gradeOf 1 (some .int)) (rmF 1 0) K 0 ad_0 (cf_0) [.int l0] st_0 r st_0 := by
  refine MCi_of (own := RX7) (plainFor_of_name (by decide)) adInj_0 rfl (Nat.le_of_ble_eq_true rfl) ?_
  intro p e s m args below meth c A Q hx_E hE H locs ls hw hl
  have hx := hx_E.1; have hb := hx_E.2.1; have hown := hx_E.2.2.2.1; have hts := hx_E.2.2.2.2.1
  replace hl : lv_has ls 1 [(0, .int l0)] := hl
  unfold f_X7_gradeOf at h
  refine lv_iload_n hx hb dX7_gradeOf_0 rfl (lv_at hl 0 rfl) ?_
  refine lv_iconst (v := 3) hx hb dX7_gradeOf_1 (by decide) ?_
  refine lv_icmp_ge (tgt := 9) hx hb dX7_gradeOf_2 (by decide) (fun c1 => ?_) (fun c1 => ?_)
  · replace h := it_t c1 h
    refine lv_iload_n hx hb dX7_gradeOf_9 rfl (lv_at hl 0 rfl) ?_
    refine lv_iconst (v := 5) hx hb dX7_gradeOf_10 (by decide) ?_
    refine lv_icmp_ge (tgt := 18) hx hb dX7_gradeOf_11 (by decide) (fun c2 => ?_) (fun c2 => ?_)
    · replace h := it_t c2 h
      refine lv_iload_n hx hb dX7_gradeOf_18 rfl (lv_at hl 0 rfl) ?_
      refine lv_iconst (v := 5) hx hb dX7_gradeOf_19 (by decide) ?_
      refine lv_icmp_ne (tgt := 27) hx hb dX7_gradeOf_20 (by decide) (fun c3 => ?_) (fun c3 => ?_)
      · replace h := it_f c3 h
        refine lv_iconst (v := 4) hx hb dX7_gradeOf_27 (by decide) ?_
        exact hE hw (Option.some.inj h) rfl dX7_gradeOf_28
      · replace h := it_t c3 h
        refine lv_iconst (v := 3) hx hb dX7_gradeOf_23 (by decide) ?_
        refine lv_goto (tgt := 28) hx hb dX7_gradeOf_24 (by decide) ?_
        exact hE hw (Option.some.inj h) rfl dX7_gradeOf_28
    · replace h := it_f c2 h
      refine lv_iconst (v := 2) hx hb dX7_gradeOf_14 (by decide) ?_
      refine lv_goto (tgt := 28) hx hb dX7_gradeOf_15 (by decide) ?_
      exact hE hw (Option.some.inj h) rfl dX7_gradeOf_28
  · replace h := it_f c1 h
    refine lv_iconst (v := 1) hx hb dX7_gradeOf_5 (by decide) ?_
    refine lv_goto (tgt := 28) hx hb dX7_gradeOf_6 (by decide) ?_
    exact hE hw (Option.some.inj h) rfl dX7_gradeOf_28
set_option maxHeartbeats 4000000 in
set_option maxRecDepth 100000 in
theorem c_X7_grade (l : Launch) (K : vK) (ad : Nat → Nat) (hI : adInj 12 ad) (σ : vSt) {r : Int32} {σ' : vSt} (h : f_X7_grade σ = some (r, σ')) : MCi l yX7_grade (wsY yX7_grade cX7_grade 4 (some .int)) (rmF 11 228) K 12 ad (cM K ad) [.ref (ad 0)] σ r σ' := by
  refine MCi_of (own := RX7) (plainFor_of_name (by decide)) hI rfl (Nat.le_of_ble_eq_true rfl) ?_
  intro p e s m args below meth c A Q hx_E hE H locs ls hw hl
  have hx := hx_E.1; have hb := hx_E.2.1; have hown := hx_E.2.2.2.1; have hts := hx_E.2.2.2.2.1
  replace hl : lv_has ls 4 [(0, .ref (ad 0))] := hl
  unfold f_X7_grade at h
  refine lv_iconst (v := 0) hx hb dX7_grade_0 (by decide) ?_
  refine lv_istore_n (lv' := [(1, .int (0 : Int32)), (0, .ref (ad 0))]) hx hb dX7_grade_1 rfl hl (by decide) rfl (fun ls hl => ?_)
  obtain ⟨φ6, h9, h_φ6⟩ := it_b h
  have hJ5 : ∀ (σ3 : vSt), σ3 = φ6 → ∀ (H : Heap) (locs : List Loc) (ls : Array Slot), PW K 12 ad (cM K ad) A s.heap σ3 H locs → lv_has ls 4 [(0, .ref (ad 0))] → W p l e (rmF 11 228) s m args below meth c H locs 0 0 Q (F0 m 39 ls []) := by
    intro σ3 e9 H locs ls hw hl
    subst e9
    replace h := h_φ6
    refine lv_iconst (v := 0) hx hb dX7_grade_39 (by decide) ?_
    refine lv_istore_n (lv' := [(1, .int (0 : Int32)), (0, .ref (ad 0))]) hx hb dX7_grade_40 rfl hl (by decide) rfl (fun ls hl => ?_)
    obtain ⟨φ17, h9, h_φ17⟩ := it_b h
    have hJ16 : ∀ (v13 : Int32) (σ14 : vSt), (v13, σ14) = φ17 → ∀ (H : Heap) (locs : List Loc) (ls : Array Slot), PW K 12 ad (cM K ad) A s.heap σ14 H locs → lv_has ls 4 [(0, .ref (ad 0)), (1, .int v13)] → W p l e (rmF 11 228) s m args below meth c H locs 0 0 Q (F0 m 80 ls []) := by
      intro v13 σ14 e9 H locs ls hw hl
      subst e9
      replace h := h_φ17
      refine lv_aload_n hx hb dX7_grade_80 rfl (lv_at hl 0 rfl) ?_
      obtain ⟨⟨v30, σ31⟩, k32, h⟩ := it_b h
      refine kV_z (As := []) (rest := []) (q := 0) hx_E hw (c_X7_fits l K ad hI   σ14 k32) mi_X7_fits mv_X7_fits ml_X7_137 (by decide) rfl rfl rfl ⟨⟨Nat.le_of_ble_eq_true rfl, Nat.le_of_ble_eq_true rfl⟩, rfl, rfl⟩ ⟨Nat.zero_le _, Nat.zero_le _⟩ hl.1 rfl (Nat.le_of_ble_eq_true rfl) dX7_grade_81 (fun z33 H locs hw => ?_)
      obtain ⟨φ37, h9, h_φ37⟩ := it_b h
      have hJ36 : ∀ (v35 : Int32), v35 = φ37 → (v35 = 0 ∨ v35 = 1) → ∀ (H : Heap) (locs : List Loc) (ls : Array Slot), PW K 12 ad (cM K ad) A s.heap σ31 H locs → lv_has ls 4 [(0, .ref (ad 0)), (1, .int v13)] → W p l e (rmF 11 228) s m args below meth c H locs 0 0 Q (F0 m 99 ls [.int v35]) := by
        intro v35 e9 z_v35 H locs ls hw hl
        subst e9
        replace h := h_φ37
        refine lv_istore_n (lv' := [(2, .int v35), (0, .ref (ad 0)), (1, .int v13)]) hx hb dX7_grade_99 rfl hl (by decide) rfl (fun ls hl => ?_)
        refine lv_iconst (v := 0) hx hb dX7_grade_100 (by decide) ?_
        refine lv_istore_n (lv' := [(3, .int (0 : Int32)), (2, .int v35), (0, .ref (ad 0)), (1, .int v13)]) hx hb dX7_grade_101 rfl hl (by decide) rfl (fun ls hl => ?_)
        obtain ⟨φ44, h9, h_φ44⟩ := it_b h
        have hJ43 : ∀ (σ41 : vSt), σ41 = φ44 → ∀ (H : Heap) (locs : List Loc) (ls : Array Slot), PW K 12 ad (cM K ad) A s.heap σ41 H locs → lv_has ls 4 [(1, .int v13), (2, .int v35)] → W p l e (rmF 11 228) s m args below meth c H locs 0 0 Q (F0 m 129 ls []) := by
          intro σ41 e9 H locs ls hw hl
          subst e9
          replace h := h_φ44
          refine lv_iload_n hx hb dX7_grade_129 rfl (lv_at hl 1 rfl) ?_
          refine lv_if_eq (tgt := 137) hx hb dX7_grade_130 (by decide) (fun c48 => ?_) (fun c48 => ?_)
          · replace h := it_t c48 h
            refine lv_iconst (v := -1) hx hb dX7_grade_137 (by decide) ?_
            exact hE hw (congrArg Prod.fst (Option.some.inj h)) (congrArg Prod.snd (Option.some.inj h)) dX7_grade_138
          · replace h := it_f c48 h
            refine lv_iload_n hx hb dX7_grade_133 rfl (lv_at hl 0 rfl) ?_
            refine lv_goto (tgt := 138) hx hb dX7_grade_134 (by decide) ?_
            exact hE hw (congrArg Prod.fst (Option.some.inj h)) (congrArg Prod.snd (Option.some.inj h)) dX7_grade_138
        have hL42 : ∀ (n9 : Nat) (v39 : Int32) (σ40 : vSt), ∀ (H : Heap) (locs : List Loc) (ls : Array Slot), f_X7_grade_102  n9 v39 σ40 = some φ44 → PW K 12 ad (cM K ad) A s.heap σ40 H locs → lv_has ls 4 [(0, .ref (ad 0)), (1, .int v13), (2, .int v35), (3, .int v39)] → W p l e (rmF 11 228) s m args below meth c H locs 0 0 Q (F0 m 102 ls []) := by
          intro n9
          induction n9 with
          | zero => intro v39 σ40 H locs ls h hw hl; rw [f_X7_grade_102.eq_1] at h; exact it_n h
          | succ n9 ih =>
            intro v39 σ40 H locs ls h hw hl
            rw [f_X7_grade_102.eq_2] at h
            refine lv_iload_n hx hb dX7_grade_102 rfl (lv_at hl 3 rfl) ?_
            refine lv_bipush (v := 40) hx hb dX7_grade_103 (by decide) ?_
            refine lv_icmp_ge (tgt := 129) hx hb dX7_grade_105 (by decide) (fun c45 => ?_) (fun c45 => ?_)
            · replace h := it_t c45 h
              have e9 := Option.some.inj h
              subst e9
              exact hJ43 _ rfl  H locs ls hw (lv_sub hl [1, 2] rfl)
            · replace h := it_f c45 h
              refine lv_aload_n hx hb dX7_grade_108 rfl (lv_at hl 0 rfl) ?_
              refine gM_0_0 hx_E hw fl_X7_7 dX7_grade_109 ?_
              refine lv_bipush (v := 18) hx hb dX7_grade_112 (by decide) ?_
              refine lv_iload_n hx hb dX7_grade_114 rfl (lv_at hl 3 rfl) ?_
              refine lv_iadd hx hb dX7_grade_115 ?_
              refine lv_aload_n hx hb dX7_grade_116 rfl (lv_at hl 0 rfl) ?_
              refine gM_0_24 hx_E hw fl_X7_38 dX7_grade_117 ?_
              refine lv_iload_n hx hb dX7_grade_120 rfl (lv_at hl 3 rfl) ?_
              obtain ⟨g46, h⟩ := it_g h
              refine aM_10 hx_E hw g46 dX7_grade_121 ?_
              obtain ⟨g47, h⟩ := it_g h
              refine sM_1 hx_E hw g47 dX7_grade_122 (fun H locs hw => ?_)
              refine lv_iinc (v := (v39 + 1)) (lv' := [(3, .int (v39 + 1)), (0, .ref (ad 0)), (1, .int v13), (2, .int v35)]) hx hb dX7_grade_123 hl (k := 3) rfl rfl (by decide) rfl (fun ls hl => ?_)
              refine lv_goto (tgt := 102) hx hb dX7_grade_126 (by decide) ?_
              exact ih _ _  H locs ls h hw (lv_sub hl [1, 2, 3, 0] rfl)
        exact hL42 600 _ _  H locs ls h9 hw (lv_sub hl [2, 3, 1, 0] rfl)
      replace h := h9
      refine lv_if_eq (tgt := 98) hx hb dX7_grade_84 (by decide) (fun c34 => ?_) (fun c34 => ?_)
      · replace h := it_t c34 h
        refine lv_iconst (v := 0) hx hb dX7_grade_98 (by decide) ?_
        have e9 := Option.some.inj h
        subst e9
        exact hJ36 _ rfl (Or.inl rfl) H locs ls hw (lv_sub hl [0, 1] rfl)
      · replace h := it_f c34 h
        refine lv_aload_n hx hb dX7_grade_87 rfl (lv_at hl 0 rfl) ?_
        refine gM_0_12 hx_E hw fl_X7_97 dX7_grade_88 ?_
        refine lv_if_eq (tgt := 98) hx hb dX7_grade_91 (by decide) (fun c38 => ?_) (fun c38 => ?_)
        · replace h := it_t c38 h
          refine lv_iconst (v := 0) hx hb dX7_grade_98 (by decide) ?_
          have e9 := Option.some.inj h
          subst e9
          exact hJ36 _ rfl (Or.inl rfl) H locs ls hw (lv_sub hl [0, 1] rfl)
        · replace h := it_f c38 h
          refine lv_iconst (v := 1) hx hb dX7_grade_94 (by decide) ?_
          refine lv_goto (tgt := 99) hx hb dX7_grade_95 (by decide) ?_
          have e9 := Option.some.inj h
          subst e9
          exact hJ36 _ rfl (Or.inr rfl) H locs ls hw (lv_sub hl [0, 1] rfl)
    have hL15 : ∀ (n9 : Nat) (v11 : Int32) (σ12 : vSt), ∀ (H : Heap) (locs : List Loc) (ls : Array Slot), f_X7_grade_41  n9 v11 σ12 = some φ17 → PW K 12 ad (cM K ad) A s.heap σ12 H locs → lv_has ls 4 [(0, .ref (ad 0)), (1, .int v11)] → W p l e (rmF 11 228) s m args below meth c H locs 0 0 Q (F0 m 41 ls []) := by
      intro n9
      induction n9 with
      | zero => intro v11 σ12 H locs ls h hw hl; rw [f_X7_grade_41.eq_1] at h; exact it_n h
      | succ n9 ih =>
        intro v11 σ12 H locs ls h hw hl
        rw [f_X7_grade_41.eq_2] at h
        refine lv_aload_n hx hb dX7_grade_41 rfl (lv_at hl 0 rfl) ?_
        refine lv_bipush (v := 7) hx hb dX7_grade_42 (by decide) ?_
        obtain ⟨⟨v18, σ19⟩, k20, h⟩ := it_b h
        refine kV_z (As := [.int (7 : Int32)]) (rest := []) (q := 0) hx_E hw (c_X7_findsNext l K ad hI  (7 : Int32) σ12 k20) mi_X7_findsNext mv_X7_findsNext ml_X7_196 (by decide) rfl rfl rfl ⟨⟨Nat.le_of_ble_eq_true rfl, Nat.le_of_ble_eq_true rfl⟩, rfl, rfl⟩ ⟨Nat.zero_le _, Nat.zero_le _⟩ hl.1 rfl (Nat.le_of_ble_eq_true rfl) dX7_grade_44 (fun z21 H locs hw => ?_)
        refine lv_if_eq (tgt := 80) hx hb dX7_grade_47 (by decide) (fun c22 => ?_) (fun c22 => ?_)
        · replace h := it_t c22 h
          have e9 := Option.some.inj h
          subst e9
          exact hJ16 _ _ rfl  H locs ls hw (lv_sub hl [0, 1] rfl)
        · replace h := it_f c22 h
          refine lv_aload_n hx hb dX7_grade_50 rfl (lv_at hl 0 rfl) ?_
          obtain ⟨σ23, k24, h⟩ := it_b h
          refine kV_v (As := []) (rest := []) (q := 0) hx_E hw (c_X7_makes l K ad hI   σ19 k24) mi_X7_makes mv_X7_makes ml_X7_152 (by decide) rfl rfl rfl ⟨⟨Nat.le_of_ble_eq_true rfl, Nat.le_of_ble_eq_true rfl⟩, rfl, rfl⟩ ⟨Nat.zero_le _, Nat.zero_le _⟩ hl.1 rfl (Nat.le_of_ble_eq_true rfl) dX7_grade_51 (fun H locs hw => ?_)
          refine lv_aload_n hx hb dX7_grade_54 rfl (lv_at hl 0 rfl) ?_
          refine gM_0_13 hx_E hw fl_X7_115 dX7_grade_55 ?_
          obtain ⟨v25, k26, h⟩ := it_b h
          refine kS_i (As := [.int (gI σ23 0 13)]) (rest := []) hx_E hw (c_X7_gradeOf l K (gI σ23 0 13) k26) mi_X7_gradeOf sm_X7_gradeOf ml_X7_221 rfl ⟨⟨Nat.le_of_ble_eq_true rfl, Nat.le_of_ble_eq_true rfl⟩, rfl, rfl⟩ ⟨Nat.zero_le _, Nat.zero_le _⟩ hl.1 rfl (Nat.le_of_ble_eq_true rfl) dX7_grade_58 (fun H locs hw => ?_)
          refine lv_iload_n hx hb dX7_grade_61 rfl (lv_at hl 1 rfl) ?_
          refine lv_icmp_le (tgt := 75) hx hb dX7_grade_62 (by decide) (fun c27 => ?_) (fun c27 => ?_)
          · replace h := it_t c27 h
            refine lv_iload_n hx hb dX7_grade_75 rfl (lv_at hl 1 rfl) ?_
            refine lv_istore_n (lv' := [(1, .int v11), (0, .ref (ad 0))]) hx hb dX7_grade_76 rfl hl (by decide) rfl (fun ls hl => ?_)
            refine lv_goto (tgt := 41) hx hb dX7_grade_77 (by decide) ?_
            exact ih _ _  H locs ls h hw (lv_sub hl [1, 0] rfl)
          · replace h := it_f c27 h
            refine lv_aload_n hx hb dX7_grade_65 rfl (lv_at hl 0 rfl) ?_
            refine gM_0_13 hx_E hw fl_X7_115 dX7_grade_66 ?_
            obtain ⟨v28, k29, h⟩ := it_b h
            refine kS_i (As := [.int (gI σ23 0 13)]) (rest := []) hx_E hw (c_X7_gradeOf l K (gI σ23 0 13) k29) mi_X7_gradeOf sm_X7_gradeOf ml_X7_221 rfl ⟨⟨Nat.le_of_ble_eq_true rfl, Nat.le_of_ble_eq_true rfl⟩, rfl, rfl⟩ ⟨Nat.zero_le _, Nat.zero_le _⟩ hl.1 rfl (Nat.le_of_ble_eq_true rfl) dX7_grade_69 (fun H locs hw => ?_)
            refine lv_goto (tgt := 76) hx hb dX7_grade_72 (by decide) ?_
            refine lv_istore_n (lv' := [(1, .int v28), (0, .ref (ad 0))]) hx hb dX7_grade_76 rfl hl (by decide) rfl (fun ls hl => ?_)
            refine lv_goto (tgt := 41) hx hb dX7_grade_77 (by decide) ?_
            exact ih _ _  H locs ls h hw (lv_sub hl [1, 0] rfl)
    exact hL15 600 _ _  H locs ls h9 hw (lv_sub hl [1, 0] rfl)
  have hL4 : ∀ (n9 : Nat) (v1 : Int32) (σ2 : vSt), ∀ (H : Heap) (locs : List Loc) (ls : Array Slot), f_X7_grade_2  n9 v1 σ2 = some φ6 → PW K 12 ad (cM K ad) A s.heap σ2 H locs → lv_has ls 4 [(0, .ref (ad 0)), (1, .int v1)] → W p l e (rmF 11 228) s m args below meth c H locs 0 0 Q (F0 m 2 ls []) := by
    intro n9
    induction n9 with
    | zero => intro v1 σ2 H locs ls h hw hl; rw [f_X7_grade_2.eq_1] at h; exact it_n h
    | succ n9 ih =>
      intro v1 σ2 H locs ls h hw hl
      rw [f_X7_grade_2.eq_2] at h
      refine lv_iload_n hx hb dX7_grade_2 rfl (lv_at hl 1 rfl) ?_
      refine lv_bipush (v := 40) hx hb dX7_grade_3 (by decide) ?_
      refine lv_icmp_ge (tgt := 39) hx hb dX7_grade_5 (by decide) (fun c7 => ?_) (fun c7 => ?_)
      · replace h := it_t c7 h
        have e9 := Option.some.inj h
        subst e9
        exact hJ5 _ rfl  H locs ls hw (lv_sub hl [0] rfl)
      · replace h := it_f c7 h
        refine lv_aload_n hx hb dX7_grade_8 rfl (lv_at hl 0 rfl) ?_
        refine gM_0_24 hx_E hw fl_X7_38 dX7_grade_9 ?_
        refine lv_iload_n hx hb dX7_grade_12 rfl (lv_at hl 1 rfl) ?_
        refine lv_aload_n hx hb dX7_grade_13 rfl (lv_at hl 0 rfl) ?_
        refine gM_0_0 hx_E hw fl_X7_7 dX7_grade_14 ?_
        refine lv_bipush (v := 18) hx hb dX7_grade_17 (by decide) ?_
        refine lv_iload_n hx hb dX7_grade_19 rfl (lv_at hl 1 rfl) ?_
        refine lv_iadd hx hb dX7_grade_20 ?_
        obtain ⟨g8, h⟩ := it_g h
        refine aM_1 hx_E hw g8 dX7_grade_21 ?_
        obtain ⟨g9, h⟩ := it_g h
        refine sM_10 hx_E hw g9 dX7_grade_22 (fun H locs hw => ?_)
        refine lv_aload_n hx hb dX7_grade_23 rfl (lv_at hl 0 rfl) ?_
        refine gM_0_0 hx_E hw fl_X7_7 dX7_grade_24 ?_
        refine lv_bipush (v := 18) hx hb dX7_grade_27 (by decide) ?_
        refine lv_iload_n hx hb dX7_grade_29 rfl (lv_at hl 1 rfl) ?_
        refine lv_iadd hx hb dX7_grade_30 ?_
        refine lv_iconst (v := 0) hx hb dX7_grade_31 (by decide) ?_
        obtain ⟨g10, h⟩ := it_g h
        refine sM_1 hx_E hw g10 dX7_grade_32 (fun H locs hw => ?_)
        refine lv_iinc (v := (v1 + 1)) (lv' := [(1, .int (v1 + 1)), (0, .ref (ad 0))]) hx hb dX7_grade_33 hl (k := 1) rfl rfl (by decide) rfl (fun ls hl => ?_)
        refine lv_goto (tgt := 2) hx hb dX7_grade_36 (by decide) ?_
        exact ih _ _  H locs ls h hw (lv_sub hl [1, 0] rfl)
  exact hL4 600 _ _  H locs ls h9 hw (lv_sub hl [1, 0] rfl)
set_option maxHeartbeats 4000000 in
set_option maxRecDepth 100000 in
theorem c_X7_counts (l : Launch) (K : vK) (ad : Nat → Nat) (hI : adInj 12 ad) (σ : vSt) {r : Int32} (h : f_X7_counts σ = some r) : MCi l yX7_counts (wsY yX7_counts cX7_counts 3 (some .int)) (rmF 2 20) K 12 ad (cM K ad) [.ref (ad 0)] σ r σ := by
  refine MCi_of (own := RX7) (plainFor_of_name (by decide)) hI rfl (Nat.le_of_ble_eq_true rfl) ?_
  intro p e s m args below meth c A Q hx_E hE H locs ls hw hl
  have hx := hx_E.1; have hb := hx_E.2.1; have hown := hx_E.2.2.2.1; have hts := hx_E.2.2.2.2.1
  replace hl : lv_has ls 3 [(0, .ref (ad 0))] := hl
  unfold f_X7_counts at h
  refine lv_iconst (v := 0) hx hb dX7_counts_0 (by decide) ?_
  refine lv_istore_n (lv' := [(1, .int (0 : Int32)), (0, .ref (ad 0))]) hx hb dX7_counts_1 rfl hl (by decide) rfl (fun ls hl => ?_)
  refine lv_iconst (v := 0) hx hb dX7_counts_2 (by decide) ?_
  refine lv_istore_n (lv' := [(2, .int (0 : Int32)), (1, .int (0 : Int32)), (0, .ref (ad 0))]) hx hb dX7_counts_3 rfl hl (by decide) rfl (fun ls hl => ?_)
  obtain ⟨φ6, h9, h_φ6⟩ := it_b h
  have hJ5 : ∀ (v3 : Int32), v3 = φ6 → ∀ (H : Heap) (locs : List Loc) (ls : Array Slot), PW K 12 ad (cM K ad) A s.heap σ H locs → lv_has ls 3 [(1, .int v3)] → W p l e (rmF 2 20) s m args below meth c H locs 0 0 Q (F0 m 38 ls []) := by
    intro v3 e9 H locs ls hw hl
    subst e9
    replace h := h_φ6
    refine lv_iload_n hx hb dX7_counts_38 rfl (lv_at hl 0 rfl) ?_
    exact hE hw (Option.some.inj h) rfl dX7_counts_39
  have hL4 : ∀ (n9 : Nat) (v1 : Int32) (v2 : Int32), ∀ (H : Heap) (locs : List Loc) (ls : Array Slot), f_X7_counts_4 σ n9 v1 v2 = some φ6 → PW K 12 ad (cM K ad) A s.heap σ H locs → lv_has ls 3 [(0, .ref (ad 0)), (1, .int v1), (2, .int v2)] → W p l e (rmF 2 20) s m args below meth c H locs 0 0 Q (F0 m 4 ls []) := by
    intro n9
    induction n9 with
    | zero => intro v1 v2 H locs ls h hw hl; rw [f_X7_counts_4.eq_1] at h; exact it_n h
    | succ n9 ih =>
      intro v1 v2 H locs ls h hw hl
      rw [f_X7_counts_4.eq_2] at h
      refine lv_iload_n hx hb dX7_counts_4 rfl (lv_at hl 2 rfl) ?_
      refine lv_aload_n hx hb dX7_counts_5 rfl (lv_at hl 0 rfl) ?_
      obtain ⟨v7, k8, h⟩ := it_b h
      refine kV_i (As := []) (rest := [.int v2]) (q := 0) hx_E hw (c_X7_cells l K ad hI   σ k8) mi_X7_cells mv_X7_cells ml_X7_82 (by decide) rfl rfl rfl ⟨⟨Nat.le_of_ble_eq_true rfl, Nat.le_of_ble_eq_true rfl⟩, rfl, rfl⟩ ⟨Nat.zero_le _, Nat.zero_le _⟩ hl.1 rfl (Nat.le_of_ble_eq_true rfl) dX7_counts_6 (fun H locs hw => ?_)
      refine lv_icmp_ge (tgt := 38) hx hb dX7_counts_9 (by decide) (fun c9 => ?_) (fun c9 => ?_)
      · replace h := it_t c9 h
        have e9 := Option.some.inj h
        subst e9
        exact hJ5 _ rfl  H locs ls hw (lv_sub hl [1] rfl)
      · replace h := it_f c9 h
        refine lv_iload_n hx hb dX7_counts_12 rfl (lv_at hl 1 rfl) ?_
        refine lv_aload_n hx hb dX7_counts_13 rfl (lv_at hl 0 rfl) ?_
        refine gM_0_0 hx_E hw fl_X7_7 dX7_counts_14 ?_
        refine lv_iconst (v := 2) hx hb dX7_counts_17 (by decide) ?_
        refine lv_iload_n hx hb dX7_counts_18 rfl (lv_at hl 2 rfl) ?_
        refine lv_iadd hx hb dX7_counts_19 ?_
        obtain ⟨g10, h⟩ := it_g h
        refine aM_1 hx_E hw g10 dX7_counts_20 ?_
        refine lv_iconst (v := -1) hx hb dX7_counts_21 (by decide) ?_
        obtain ⟨φ14, h9, h_φ14⟩ := it_b h
        have hJ13 : ∀ (v12 : Int32), v12 = φ14 → (v12 = 0 ∨ v12 = 1) → ∀ (H : Heap) (locs : List Loc) (ls : Array Slot), PW K 12 ad (cM K ad) A s.heap σ H locs → lv_has ls 3 [(0, .ref (ad 0)), (2, .int v2)] → W p l e (rmF 2 20) s m args below meth c H locs 0 0 Q (F0 m 30 ls [.int v12, .int v1]) := by
          intro v12 e9 z_v12 H locs ls hw hl
          subst e9
          replace h := h_φ14
          refine lv_iadd hx hb dX7_counts_30 ?_
          obtain ⟨v15, e_v15, h⟩ := it_b h
          refine lt_topi (Option.some.inj e_v15) ?_
          refine lv_istore_n (lv' := [(1, .int v15), (0, .ref (ad 0)), (2, .int v2)]) hx hb dX7_counts_31 rfl hl (by decide) rfl (fun ls hl => ?_)
          refine lv_iinc (v := (v2 + 1)) (lv' := [(2, .int (v2 + 1)), (1, .int v15), (0, .ref (ad 0))]) hx hb dX7_counts_32 hl (k := 2) rfl rfl (by decide) rfl (fun ls hl => ?_)
          refine lv_goto (tgt := 4) hx hb dX7_counts_35 (by decide) ?_
          exact ih _ _   H locs ls h hw (lv_sub hl [2, 1, 0] rfl)
        replace h := h9
        refine lv_icmp_ne (tgt := 29) hx hb dX7_counts_22 (by decide) (fun c11 => ?_) (fun c11 => ?_)
        · replace h := it_f c11 h
          refine lv_iconst (v := 1) hx hb dX7_counts_29 (by decide) ?_
          have e9 := Option.some.inj h
          subst e9
          exact hJ13 _ rfl (Or.inr rfl) H locs ls hw (lv_sub hl [0, 2] rfl)
        · replace h := it_t c11 h
          refine lv_iconst (v := 0) hx hb dX7_counts_25 (by decide) ?_
          refine lv_goto (tgt := 30) hx hb dX7_counts_26 (by decide) ?_
          have e9 := Option.some.inj h
          subst e9
          exact hJ13 _ rfl (Or.inl rfl) H locs ls hw (lv_sub hl [0, 2] rfl)
  exact hL4 600 _ _  H locs ls h9 hw (lv_sub hl [2, 1, 0] rfl)
set_option maxHeartbeats 4000000 in
set_option maxRecDepth 100000 in
theorem c_X7_count (l : Launch) (K : vK) (ad : Nat → Nat) (hI : adInj 12 ad) (l1 : Int32) (σ : vSt) {r : Int32} (h : f_X7_count l1 σ = some r) : MCi l yX7_count (wsY yX7_count cX7_count 2 (some .int)) (rmF 4 63) K 12 ad (cM K ad) [.ref (ad 0), .int l1] σ r σ := by
  refine MCi_of (own := RX7) (plainFor_of_name (by decide)) hI rfl (Nat.le_of_ble_eq_true rfl) ?_
  intro p e s m args below meth c A Q hx_E hE H locs ls hw hl
  have hx := hx_E.1; have hb := hx_E.2.1; have hown := hx_E.2.2.2.1; have hts := hx_E.2.2.2.2.1
  replace hl : lv_has ls 2 [(0, .ref (ad 0)), (1, .int l1)] := hl
  unfold f_X7_count at h
  refine lv_iload_n hx hb dX7_count_0 rfl (lv_at hl 1 rfl) ?_
  refine lv_bipush (v := 6) hx hb dX7_count_1 (by decide) ?_
  refine lv_bipush (v := 13) hx hb dX7_count_3 (by decide) ?_
  obtain ⟨v1, k2, h⟩ := it_b h
  refine kS_z (As := [.int l1, .int (6 : Int32), .int (13 : Int32)]) (rest := []) hx_E hw (c_X7_in l K l1 (6 : Int32) (13 : Int32) k2) mi_X7_in sm_X7_in ml_X7_162 rfl ⟨⟨Nat.le_of_ble_eq_true rfl, Nat.le_of_ble_eq_true rfl⟩, rfl, rfl⟩ ⟨Nat.zero_le _, Nat.zero_le _⟩ hl.1 rfl (Nat.le_of_ble_eq_true rfl) dX7_count_5 (fun z3 H locs hw => ?_)
  refine lv_if_eq (tgt := 24) hx hb dX7_count_8 (by decide) (fun c4 => ?_) (fun c4 => ?_)
  · replace h := it_t c4 h
    refine lv_iload_n hx hb dX7_count_24 rfl (lv_at hl 1 rfl) ?_
    by_cases c15 : l1 = 0
    · replace h := it_t c15 h
      refine lv_tableIn (off := 79) (tgt := 104) hx hb dX7_count_25 (by rw [c15]; decide) (by rw [c15]; decide) (by rw [c15]; rfl) (by decide) ?_
      refine lv_aload_n hx hb dX7_count_104 rfl (lv_at hl 0 rfl) ?_
      refine gM_0_0 hx_E hw fl_X7_7 dX7_count_105 ?_
      refine lv_iload_n hx hb dX7_count_108 rfl (lv_at hl 1 rfl) ?_
      obtain ⟨g5, h⟩ := it_g h
      refine aM_1 hx_E hw g5 dX7_count_109 ?_
      exact hE hw (Option.some.inj h) rfl dX7_count_110
    replace h := it_f c15 h
    by_cases c16 : l1 = 1
    · replace h := it_t c16 h
      refine lv_tableIn (off := 79) (tgt := 104) hx hb dX7_count_25 (by rw [c16]; decide) (by rw [c16]; decide) (by rw [c16]; rfl) (by decide) ?_
      refine lv_aload_n hx hb dX7_count_104 rfl (lv_at hl 0 rfl) ?_
      refine gM_0_0 hx_E hw fl_X7_7 dX7_count_105 ?_
      refine lv_iload_n hx hb dX7_count_108 rfl (lv_at hl 1 rfl) ?_
      obtain ⟨g6, h⟩ := it_g h
      refine aM_1 hx_E hw g6 dX7_count_109 ?_
      exact hE hw (Option.some.inj h) rfl dX7_count_110
    replace h := it_f c16 h
    by_cases c17 : l1 = 2
    · replace h := it_t c17 h
      refine lv_tableIn (off := 86) (tgt := 111) hx hb dX7_count_25 (by rw [c17]; decide) (by rw [c17]; decide) (by rw [c17]; rfl) (by decide) ?_
      refine lv_aload_n hx hb dX7_count_111 rfl (lv_at hl 0 rfl) ?_
      obtain ⟨v7, k8, h⟩ := it_b h
      refine kV_i (As := []) (rest := []) (q := 0) hx_E hw (c_X7_edges l K ad hI   σ k8) mi_X7_edges mv_X7_edges ml_X7_69 (by decide) rfl rfl rfl ⟨⟨Nat.le_of_ble_eq_true rfl, Nat.le_of_ble_eq_true rfl⟩, rfl, rfl⟩ ⟨Nat.zero_le _, Nat.zero_le _⟩ hl.1 rfl (Nat.le_of_ble_eq_true rfl) dX7_count_112 (fun H locs hw => ?_)
      exact hE hw (Option.some.inj h) rfl dX7_count_115
    replace h := it_f c17 h
    by_cases c18 : l1 = 3
    · replace h := it_t c18 h
      refine lv_tableIn (off := 91) (tgt := 116) hx hb dX7_count_25 (by rw [c18]; decide) (by rw [c18]; decide) (by rw [c18]; rfl) (by decide) ?_
      refine lv_aload_n hx hb dX7_count_116 rfl (lv_at hl 0 rfl) ?_
      refine lv_iload_n hx hb dX7_count_117 rfl (lv_at hl 1 rfl) ?_
      refine lv_iconst (v := 3) hx hb dX7_count_118 (by decide) ?_
      refine lv_isub hx hb dX7_count_119 ?_
      obtain ⟨v9, k10, h⟩ := it_b h
      refine kV_i (As := [.int (l1 - (3 : Int32))]) (rest := []) (q := 0) hx_E hw (c_X7_marked l K ad hI  (l1 - (3 : Int32)) σ k10) mi_X7_marked mv_X7_marked ml_X7_193 (by decide) rfl rfl rfl ⟨⟨Nat.le_of_ble_eq_true rfl, Nat.le_of_ble_eq_true rfl⟩, rfl, rfl⟩ ⟨Nat.zero_le _, Nat.zero_le _⟩ hl.1 rfl (Nat.le_of_ble_eq_true rfl) dX7_count_120 (fun H locs hw => ?_)
      exact hE hw (Option.some.inj h) rfl dX7_count_123
    replace h := it_f c18 h
    by_cases c19 : l1 = 4
    · replace h := it_t c19 h
      refine lv_tableIn (off := 91) (tgt := 116) hx hb dX7_count_25 (by rw [c19]; decide) (by rw [c19]; decide) (by rw [c19]; rfl) (by decide) ?_
      refine lv_aload_n hx hb dX7_count_116 rfl (lv_at hl 0 rfl) ?_
      refine lv_iload_n hx hb dX7_count_117 rfl (lv_at hl 1 rfl) ?_
      refine lv_iconst (v := 3) hx hb dX7_count_118 (by decide) ?_
      refine lv_isub hx hb dX7_count_119 ?_
      obtain ⟨v11, k12, h⟩ := it_b h
      refine kV_i (As := [.int (l1 - (3 : Int32))]) (rest := []) (q := 0) hx_E hw (c_X7_marked l K ad hI  (l1 - (3 : Int32)) σ k12) mi_X7_marked mv_X7_marked ml_X7_193 (by decide) rfl rfl rfl ⟨⟨Nat.le_of_ble_eq_true rfl, Nat.le_of_ble_eq_true rfl⟩, rfl, rfl⟩ ⟨Nat.zero_le _, Nat.zero_le _⟩ hl.1 rfl (Nat.le_of_ble_eq_true rfl) dX7_count_120 (fun H locs hw => ?_)
      exact hE hw (Option.some.inj h) rfl dX7_count_123
    replace h := it_f c19 h
    by_cases c20 : l1 = 5
    · replace h := it_t c20 h
      refine lv_tableIn (off := 99) (tgt := 124) hx hb dX7_count_25 (by rw [c20]; decide) (by rw [c20]; decide) (by rw [c20]; rfl) (by decide) ?_
      refine lv_aload_n hx hb dX7_count_124 rfl (lv_at hl 0 rfl) ?_
      obtain ⟨v13, k14, h⟩ := it_b h
      refine kV_i (As := []) (rest := []) (q := 0) hx_E hw (c_X7_counts l K ad hI   σ k14) mi_X7_counts mv_X7_counts ml_X7_224 (by decide) rfl rfl rfl ⟨⟨Nat.le_of_ble_eq_true rfl, Nat.le_of_ble_eq_true rfl⟩, rfl, rfl⟩ ⟨Nat.zero_le _, Nat.zero_le _⟩ hl.1 rfl (Nat.le_of_ble_eq_true rfl) dX7_count_125 (fun H locs hw => ?_)
      exact hE hw (Option.some.inj h) rfl dX7_count_128
    replace h := it_f c20 h
    by_cases c21 : l1 = 6
    · replace h := it_t c21 h
      refine lv_tableIn (off := 114) (tgt := 139) hx hb dX7_count_25 (by rw [c21]; decide) (by rw [c21]; decide) (by rw [c21]; rfl) (by decide) ?_
      refine lv_bipush (v := -2) hx hb dX7_count_139 (by decide) ?_
      exact hE hw (Option.some.inj h) rfl dX7_count_141
    replace h := it_f c21 h
    by_cases c22 : l1 = 7
    · replace h := it_t c22 h
      refine lv_tableIn (off := 114) (tgt := 139) hx hb dX7_count_25 (by rw [c22]; decide) (by rw [c22]; decide) (by rw [c22]; rfl) (by decide) ?_
      refine lv_bipush (v := -2) hx hb dX7_count_139 (by decide) ?_
      exact hE hw (Option.some.inj h) rfl dX7_count_141
    replace h := it_f c22 h
    by_cases c23 : l1 = 8
    · replace h := it_t c23 h
      refine lv_tableIn (off := 114) (tgt := 139) hx hb dX7_count_25 (by rw [c23]; decide) (by rw [c23]; decide) (by rw [c23]; rfl) (by decide) ?_
      refine lv_bipush (v := -2) hx hb dX7_count_139 (by decide) ?_
      exact hE hw (Option.some.inj h) rfl dX7_count_141
    replace h := it_f c23 h
    by_cases c24 : l1 = 9
    · replace h := it_t c24 h
      refine lv_tableIn (off := 114) (tgt := 139) hx hb dX7_count_25 (by rw [c24]; decide) (by rw [c24]; decide) (by rw [c24]; rfl) (by decide) ?_
      refine lv_bipush (v := -2) hx hb dX7_count_139 (by decide) ?_
      exact hE hw (Option.some.inj h) rfl dX7_count_141
    replace h := it_f c24 h
    by_cases c25 : l1 = 10
    · replace h := it_t c25 h
      refine lv_tableIn (off := 114) (tgt := 139) hx hb dX7_count_25 (by rw [c25]; decide) (by rw [c25]; decide) (by rw [c25]; rfl) (by decide) ?_
      refine lv_bipush (v := -2) hx hb dX7_count_139 (by decide) ?_
      exact hE hw (Option.some.inj h) rfl dX7_count_141
    replace h := it_f c25 h
    by_cases c26 : l1 = 11
    · replace h := it_t c26 h
      refine lv_tableIn (off := 114) (tgt := 139) hx hb dX7_count_25 (by rw [c26]; decide) (by rw [c26]; decide) (by rw [c26]; rfl) (by decide) ?_
      refine lv_bipush (v := -2) hx hb dX7_count_139 (by decide) ?_
      exact hE hw (Option.some.inj h) rfl dX7_count_141
    replace h := it_f c26 h
    by_cases c27 : l1 = 12
    · replace h := it_t c27 h
      refine lv_tableIn (off := 114) (tgt := 139) hx hb dX7_count_25 (by rw [c27]; decide) (by rw [c27]; decide) (by rw [c27]; rfl) (by decide) ?_
      refine lv_bipush (v := -2) hx hb dX7_count_139 (by decide) ?_
      exact hE hw (Option.some.inj h) rfl dX7_count_141
    replace h := it_f c27 h
    by_cases c28 : l1 = 13
    · replace h := it_t c28 h
      refine lv_tableIn (off := 114) (tgt := 139) hx hb dX7_count_25 (by rw [c28]; decide) (by rw [c28]; decide) (by rw [c28]; rfl) (by decide) ?_
      refine lv_bipush (v := -2) hx hb dX7_count_139 (by decide) ?_
      exact hE hw (Option.some.inj h) rfl dX7_count_141
    replace h := it_f c28 h
    by_cases c29 : l1 = 14
    · replace h := it_t c29 h
      refine lv_tableIn (off := 104) (tgt := 129) hx hb dX7_count_25 (by rw [c29]; decide) (by rw [c29]; decide) (by rw [c29]; rfl) (by decide) ?_
      refine lv_aload_n hx hb dX7_count_129 rfl (lv_at hl 0 rfl) ?_
      refine gM_0_2 hx_E hw fl_X7_44 dX7_count_130 ?_
      exact hE hw (Option.some.inj h) rfl dX7_count_133
    replace h := it_f c29 h
    by_cases c30 : l1 = 15
    · replace h := it_t c30 h
      refine lv_tableIn (off := 109) (tgt := 134) hx hb dX7_count_25 (by rw [c30]; decide) (by rw [c30]; decide) (by rw [c30]; rfl) (by decide) ?_
      refine lv_aload_n hx hb dX7_count_134 rfl (lv_at hl 0 rfl) ?_
      refine gM_0_4 hx_E hw fl_X7_166 dX7_count_135 ?_
      exact hE hw (Option.some.inj h) rfl dX7_count_138
    replace h := it_f c30 h
    refine lv_tableOut (tgt := 139) hx hb dX7_count_25 (sw_out0_15 c15 c16 c17 c18 c19 c20 c21 c22 c23 c24 c25 c26 c27 c28 c29 c30) (by decide) ?_
    refine lv_bipush (v := -2) hx hb dX7_count_139 (by decide) ?_
    exact hE hw (Option.some.inj h) rfl dX7_count_141
  · replace h := it_f c4 h
    refine lv_aload_n hx hb dX7_count_11 rfl (lv_at hl 0 rfl) ?_
    refine gM_0_0 hx_E hw fl_X7_7 dX7_count_12 ?_
    refine lv_bipush (v := 58) hx hb dX7_count_15 (by decide) ?_
    refine lv_iload_n hx hb dX7_count_17 rfl (lv_at hl 1 rfl) ?_
    refine lv_iadd hx hb dX7_count_18 ?_
    refine lv_bipush (v := 6) hx hb dX7_count_19 (by decide) ?_
    refine lv_isub hx hb dX7_count_21 ?_
    obtain ⟨g31, h⟩ := it_g h
    refine aM_1 hx_E hw g31 dX7_count_22 ?_
    exact hE hw (Option.some.inj h) rfl dX7_count_23
set_option maxHeartbeats 4000000 in
set_option maxRecDepth 100000 in
theorem c_X7_mixes (l : Launch) (K : vK) (ad : Nat → Nat) (hI : adInj 12 ad) (l1 : Int32) (σ : vSt) {σ' : vSt} (h : f_X7_mixes l1 σ = some σ') : MCv l yX7_mixes (wsY yX7_mixes cX7_mixes 2 none) (rmF 1 0) K 12 ad (cM K ad) [.ref (ad 0), .int l1] σ σ' := by
  refine MCv_of (own := RX7) (plainFor_of_name (by decide)) hI rfl (Nat.le_of_ble_eq_true rfl) ?_
  intro p e s m args below meth c A Q hx_E hE H locs ls hw hl
  have hx := hx_E.1; have hb := hx_E.2.1; have hown := hx_E.2.2.2.1; have hts := hx_E.2.2.2.2.1
  replace hl : lv_has ls 2 [(0, .ref (ad 0)), (1, .int l1)] := hl
  unfold f_X7_mixes at h
  refine lv_aload_n hx hb dX7_mixes_0 rfl (lv_at hl 0 rfl) ?_
  refine lv_ldc2 (v := 31) hx hb hown (hts _ kl_X7_227) dX7_mixes_1 ?_
  refine lv_aload_n hx hb dX7_mixes_4 rfl (lv_at hl 0 rfl) ?_
  refine gM_0_29 hx_E hw fl_X7_229 dX7_mixes_5 ?_
  refine lv_lmul hx hb dX7_mixes_8 ?_
  refine lv_iload_n hx hb dX7_mixes_9 rfl (lv_at hl 1 rfl) ?_
  refine lv_i2l (v := l1.toInt64) hx hb dX7_mixes_10 rfl ?_
  refine lv_ladd hx hb dX7_mixes_11 ?_
  refine pM_0_29 hx_E hw fl_X7_229 dX7_mixes_12 (fun H locs hw => ?_)
  exact hE hw (Option.some.inj h) dX7_mixes_15
set_option maxHeartbeats 4000000 in
set_option maxRecDepth 100000 in
theorem c_X7_digest (l : Launch) (K : vK) (ad : Nat → Nat) (hI : adInj 12 ad) (σ : vSt) {r : Int64} {σ' : vSt} (h : f_X7_digest σ = some (r, σ')) : MCl l yX7_digest (wsY yX7_digest cX7_digest 2 (some .long)) (rmF 12 251) K 12 ad (cM K ad) [.ref (ad 0)] σ r σ' := by
  refine MCl_of (own := RX7) (plainFor_of_name (by decide)) hI rfl (Nat.le_of_ble_eq_true rfl) ?_
  intro p e s m args below meth c A Q hx_E hE H locs ls hw hl
  have hx := hx_E.1; have hb := hx_E.2.1; have hown := hx_E.2.2.2.1; have hts := hx_E.2.2.2.2.1
  replace hl : lv_has ls 2 [(0, .ref (ad 0))] := hl
  unfold f_X7_digest at h
  refine lv_aload_n hx hb dX7_digest_0 rfl (lv_at hl 0 rfl) ?_
  refine lv_ldc2 (v := 157) hx hb hown (hts _ kl_X7_233) dX7_digest_1 ?_
  refine pM_0_29 hx_E hw fl_X7_229 dX7_digest_4 (fun H locs hw => ?_)
  refine lv_iconst (v := 0) hx hb dX7_digest_7 (by decide) ?_
  refine lv_istore_n (lv' := [(1, .int (0 : Int32)), (0, .ref (ad 0))]) hx hb dX7_digest_8 rfl hl (by decide) rfl (fun ls hl => ?_)
  obtain ⟨σ1, e_σ1, h⟩ := it_b h
  replace hw := PW_cast (Option.some.inj e_σ1) hw
  obtain ⟨φ7, h9, h_φ7⟩ := it_b h
  have hJ6 : ∀ (σ4 : vSt), σ4 = φ7 → ∀ (H : Heap) (locs : List Loc) (ls : Array Slot), PW K 12 ad (cM K ad) A s.heap σ4 H locs → lv_has ls 2 [(0, .ref (ad 0))] → W p l e (rmF 12 251) s m args below meth c H locs 0 0 Q (F0 m 30 ls []) := by
    intro σ4 e9 H locs ls hw hl
    subst e9
    replace h := h_φ7
    refine lv_iconst (v := 0) hx hb dX7_digest_30 (by decide) ?_
    refine lv_istore_n (lv' := [(1, .int (0 : Int32)), (0, .ref (ad 0))]) hx hb dX7_digest_31 rfl hl (by decide) rfl (fun ls hl => ?_)
    obtain ⟨φ18, h9, h_φ18⟩ := it_b h
    have hJ17 : ∀ (σ15 : vSt), σ15 = φ18 → ∀ (H : Heap) (locs : List Loc) (ls : Array Slot), PW K 12 ad (cM K ad) A s.heap σ15 H locs → lv_has ls 2 [(0, .ref (ad 0))] → W p l e (rmF 12 251) s m args below meth c H locs 0 0 Q (F0 m 58 ls []) := by
      intro σ15 e9 H locs ls hw hl
      subst e9
      replace h := h_φ18
      refine lv_iconst (v := 0) hx hb dX7_digest_58 (by decide) ?_
      refine lv_istore_n (lv' := [(1, .int (0 : Int32)), (0, .ref (ad 0))]) hx hb dX7_digest_59 rfl hl (by decide) rfl (fun ls hl => ?_)
      obtain ⟨φ30, h9, h_φ30⟩ := it_b h
      have hJ29 : ∀ (σ27 : vSt), σ27 = φ30 → ∀ (H : Heap) (locs : List Loc) (ls : Array Slot), PW K 12 ad (cM K ad) A s.heap σ27 H locs → lv_has ls 2 [(0, .ref (ad 0))] → W p l e (rmF 12 251) s m args below meth c H locs 0 0 Q (F0 m 83 ls []) := by
        intro σ27 e9 H locs ls hw hl
        subst e9
        replace h := h_φ30
        refine lv_iconst (v := 0) hx hb dX7_digest_83 (by decide) ?_
        refine lv_istore_n (lv' := [(1, .int (0 : Int32)), (0, .ref (ad 0))]) hx hb dX7_digest_84 rfl hl (by decide) rfl (fun ls hl => ?_)
        obtain ⟨φ43, h9, h_φ43⟩ := it_b h
        have hJ42 : ∀ (σ40 : vSt), σ40 = φ43 → ∀ (H : Heap) (locs : List Loc) (ls : Array Slot), PW K 12 ad (cM K ad) A s.heap σ40 H locs → lv_has ls 2 [(0, .ref (ad 0))] → W p l e (rmF 12 251) s m args below meth c H locs 0 0 Q (F0 m 105 ls []) := by
          intro σ40 e9 H locs ls hw hl
          subst e9
          replace h := h_φ43
          refine lv_iconst (v := 0) hx hb dX7_digest_105 (by decide) ?_
          refine lv_istore_n (lv' := [(1, .int (0 : Int32)), (0, .ref (ad 0))]) hx hb dX7_digest_106 rfl hl (by decide) rfl (fun ls hl => ?_)
          obtain ⟨φ55, h9, h_φ55⟩ := it_b h
          have hJ54 : ∀ (σ52 : vSt), σ52 = φ55 → ∀ (H : Heap) (locs : List Loc) (ls : Array Slot), PW K 12 ad (cM K ad) A s.heap σ52 H locs → lv_has ls 2 [(0, .ref (ad 0))] → W p l e (rmF 12 251) s m args below meth c H locs 0 0 Q (F0 m 127 ls []) := by
            intro σ52 e9 H locs ls hw hl
            subst e9
            replace h := h_φ55
            refine lv_aload_n hx hb dX7_digest_127 rfl (lv_at hl 0 rfl) ?_
            refine lv_aload_n hx hb dX7_digest_128 rfl (lv_at hl 0 rfl) ?_
            refine lv_iconst (v := 2) hx hb dX7_digest_129 (by decide) ?_
            obtain ⟨⟨v62, σ63⟩, k64, h⟩ := it_b h
            refine kV_i (As := [.int (2 : Int32)]) (rest := [.ref (ad 0)]) (q := 0) hx_E hw (c_X7_solutions l K ad hI  (2 : Int32) σ52 k64) mi_X7_solutions mv_X7_solutions ml_X7_247 (by decide) rfl rfl rfl ⟨⟨Nat.le_of_ble_eq_true rfl, Nat.le_of_ble_eq_true rfl⟩, rfl, rfl⟩ ⟨Nat.zero_le _, Nat.zero_le _⟩ hl.1 rfl (Nat.le_of_ble_eq_true rfl) dX7_digest_130 (fun H locs hw => ?_)
            obtain ⟨σ65, k66, h⟩ := it_b h
            refine kV_v (As := [.int v62]) (rest := []) (q := 0) hx_E hw (c_X7_mixes l K ad hI  v62 σ63 k66) mi_X7_mixes mv_X7_mixes ml_X7_238 (by decide) rfl rfl rfl ⟨⟨Nat.le_of_ble_eq_true rfl, Nat.le_of_ble_eq_true rfl⟩, rfl, rfl⟩ ⟨Nat.zero_le _, Nat.zero_le _⟩ hl.1 rfl (Nat.le_of_ble_eq_true rfl) dX7_digest_133 (fun H locs hw => ?_)
            refine lv_aload_n hx hb dX7_digest_136 rfl (lv_at hl 0 rfl) ?_
            refine lv_aload_n hx hb dX7_digest_137 rfl (lv_at hl 0 rfl) ?_
            refine lv_iconst (v := 2) hx hb dX7_digest_138 (by decide) ?_
            obtain ⟨⟨v67, σ68⟩, k69, h⟩ := it_b h
            refine kV_i (As := [.int (2 : Int32)]) (rest := [.ref (ad 0)]) (q := 0) hx_E hw (c_X7_nodes l K ad hI  (2 : Int32) σ65 k69) mi_X7_nodes mv_X7_nodes ml_X7_250 (by decide) rfl rfl rfl ⟨⟨Nat.le_of_ble_eq_true rfl, Nat.le_of_ble_eq_true rfl⟩, rfl, rfl⟩ ⟨Nat.zero_le _, Nat.zero_le _⟩ hl.1 rfl (Nat.le_of_ble_eq_true rfl) dX7_digest_139 (fun H locs hw => ?_)
            obtain ⟨σ70, k71, h⟩ := it_b h
            refine kV_v (As := [.int v67]) (rest := []) (q := 0) hx_E hw (c_X7_mixes l K ad hI  v67 σ68 k71) mi_X7_mixes mv_X7_mixes ml_X7_238 (by decide) rfl rfl rfl ⟨⟨Nat.le_of_ble_eq_true rfl, Nat.le_of_ble_eq_true rfl⟩, rfl, rfl⟩ ⟨Nat.zero_le _, Nat.zero_le _⟩ hl.1 rfl (Nat.le_of_ble_eq_true rfl) dX7_digest_142 (fun H locs hw => ?_)
            refine lv_aload_n hx hb dX7_digest_145 rfl (lv_at hl 0 rfl) ?_
            refine lv_aload_n hx hb dX7_digest_146 rfl (lv_at hl 0 rfl) ?_
            obtain ⟨⟨v72, σ73⟩, k74, h⟩ := it_b h
            refine kV_i (As := []) (rest := [.ref (ad 0)]) (q := 0) hx_E hw (c_X7_grade l K ad hI   σ70 k74) mi_X7_grade mv_X7_grade ml_X7_253 (by decide) rfl rfl rfl ⟨⟨Nat.le_of_ble_eq_true rfl, Nat.le_of_ble_eq_true rfl⟩, rfl, rfl⟩ ⟨Nat.zero_le _, Nat.zero_le _⟩ hl.1 rfl (Nat.le_of_ble_eq_true rfl) dX7_digest_147 (fun H locs hw => ?_)
            obtain ⟨σ75, k76, h⟩ := it_b h
            refine kV_v (As := [.int v72]) (rest := []) (q := 0) hx_E hw (c_X7_mixes l K ad hI  v72 σ73 k76) mi_X7_mixes mv_X7_mixes ml_X7_238 (by decide) rfl rfl rfl ⟨⟨Nat.le_of_ble_eq_true rfl, Nat.le_of_ble_eq_true rfl⟩, rfl, rfl⟩ ⟨Nat.zero_le _, Nat.zero_le _⟩ hl.1 rfl (Nat.le_of_ble_eq_true rfl) dX7_digest_150 (fun H locs hw => ?_)
            refine lv_iconst (v := 0) hx hb dX7_digest_153 (by decide) ?_
            refine lv_istore_n (lv' := [(1, .int (0 : Int32)), (0, .ref (ad 0))]) hx hb dX7_digest_154 rfl hl (by decide) rfl (fun ls hl => ?_)
            obtain ⟨φ82, h9, h_φ82⟩ := it_b h
            have hJ81 : ∀ (σ79 : vSt), σ79 = φ82 → ∀ (H : Heap) (locs : List Loc) (ls : Array Slot), PW K 12 ad (cM K ad) A s.heap σ79 H locs → lv_has ls 2 [(0, .ref (ad 0))] → W p l e (rmF 12 251) s m args below meth c H locs 0 0 Q (F0 m 179 ls []) := by
              intro σ79 e9 H locs ls hw hl
              subst e9
              replace h := h_φ82
              refine lv_aload_n hx hb dX7_digest_179 rfl (lv_at hl 0 rfl) ?_
              refine gM_0_29 hx_E hw fl_X7_229 dX7_digest_180 ?_
              exact hE hw (congrArg Prod.fst (Option.some.inj h)) (congrArg Prod.snd (Option.some.inj h)) dX7_digest_183
            have hL80 : ∀ (n9 : Nat) (v77 : Int32) (σ78 : vSt), ∀ (H : Heap) (locs : List Loc) (ls : Array Slot), f_X7_digest_155  n9 v77 σ78 = some φ82 → PW K 12 ad (cM K ad) A s.heap σ78 H locs → lv_has ls 2 [(0, .ref (ad 0)), (1, .int v77)] → W p l e (rmF 12 251) s m args below meth c H locs 0 0 Q (F0 m 155 ls []) := by
              intro n9
              induction n9 with
              | zero => intro v77 σ78 H locs ls h hw hl; rw [f_X7_digest_155.eq_1] at h; exact it_n h
              | succ n9 ih =>
                intro v77 σ78 H locs ls h hw hl
                rw [f_X7_digest_155.eq_2] at h
                refine lv_iload_n hx hb dX7_digest_155 rfl (lv_at hl 1 rfl) ?_
                refine lv_aload_n hx hb dX7_digest_156 rfl (lv_at hl 0 rfl) ?_
                refine gM_0_4 hx_E hw fl_X7_166 dX7_digest_157 ?_
                refine lv_icmp_ge (tgt := 179) hx hb dX7_digest_160 (by decide) (fun c83 => ?_) (fun c83 => ?_)
                · replace h := it_t c83 h
                  have e9 := Option.some.inj h
                  subst e9
                  exact hJ81 _ rfl  H locs ls hw (lv_sub hl [0] rfl)
                · replace h := it_f c83 h
                  refine lv_aload_n hx hb dX7_digest_163 rfl (lv_at hl 0 rfl) ?_
                  refine lv_aload_n hx hb dX7_digest_164 rfl (lv_at hl 0 rfl) ?_
                  refine gM_0_3 hx_E hw fl_X7_16 dX7_digest_165 ?_
                  refine lv_iload_n hx hb dX7_digest_168 rfl (lv_at hl 1 rfl) ?_
                  obtain ⟨g84, h⟩ := it_g h
                  refine aM_3 hx_E hw g84 dX7_digest_169 ?_
                  obtain ⟨σ85, k86, h⟩ := it_b h
                  refine kV_v (As := [.int (gI σ78 3 v77.toNatClampNeg)]) (rest := []) (q := 0) hx_E hw (c_X7_mixes l K ad hI  (gI σ78 3 v77.toNatClampNeg) σ78 k86) mi_X7_mixes mv_X7_mixes ml_X7_238 (by decide) rfl rfl rfl ⟨⟨Nat.le_of_ble_eq_true rfl, Nat.le_of_ble_eq_true rfl⟩, rfl, rfl⟩ ⟨Nat.zero_le _, Nat.zero_le _⟩ hl.1 rfl (Nat.le_of_ble_eq_true rfl) dX7_digest_170 (fun H locs hw => ?_)
                  refine lv_iinc (v := (v77 + 1)) (lv' := [(1, .int (v77 + 1)), (0, .ref (ad 0))]) hx hb dX7_digest_173 hl (k := 1) rfl rfl (by decide) rfl (fun ls hl => ?_)
                  refine lv_goto (tgt := 155) hx hb dX7_digest_176 (by decide) ?_
                  exact ih _ _  H locs ls h hw (lv_sub hl [1, 0] rfl)
            exact hL80 600 _ _  H locs ls h9 hw (lv_sub hl [1, 0] rfl)
          have hL53 : ∀ (n9 : Nat) (v50 : Int32) (σ51 : vSt), ∀ (H : Heap) (locs : List Loc) (ls : Array Slot), f_X7_digest_107  n9 v50 σ51 = some φ55 → PW K 12 ad (cM K ad) A s.heap σ51 H locs → lv_has ls 2 [(0, .ref (ad 0)), (1, .int v50)] → W p l e (rmF 12 251) s m args below meth c H locs 0 0 Q (F0 m 107 ls []) := by
            intro n9
            induction n9 with
            | zero => intro v50 σ51 H locs ls h hw hl; rw [f_X7_digest_107.eq_1] at h; exact it_n h
            | succ n9 ih =>
              intro v50 σ51 H locs ls h hw hl
              rw [f_X7_digest_107.eq_2] at h
              refine lv_iload_n hx hb dX7_digest_107 rfl (lv_at hl 1 rfl) ?_
              refine lv_iconst (v := 4) hx hb dX7_digest_108 (by decide) ?_
              refine lv_icmp_ge (tgt := 127) hx hb dX7_digest_109 (by decide) (fun c56 => ?_) (fun c56 => ?_)
              · replace h := it_t c56 h
                have e9 := Option.some.inj h
                subst e9
                exact hJ54 _ rfl  H locs ls hw (lv_sub hl [0] rfl)
              · replace h := it_f c56 h
                refine lv_aload_n hx hb dX7_digest_112 rfl (lv_at hl 0 rfl) ?_
                refine lv_aload_n hx hb dX7_digest_113 rfl (lv_at hl 0 rfl) ?_
                refine lv_iload_n hx hb dX7_digest_114 rfl (lv_at hl 1 rfl) ?_
                obtain ⟨⟨v57, σ58⟩, k59, h⟩ := it_b h
                refine kV_i (As := [.int v50]) (rest := [.ref (ad 0)]) (q := 0) hx_E hw (c_X7_hint l K ad hI  v50 σ51 k59) mi_X7_hint mv_X7_hint ml_X7_244 (by decide) rfl rfl rfl ⟨⟨Nat.le_of_ble_eq_true rfl, Nat.le_of_ble_eq_true rfl⟩, rfl, rfl⟩ ⟨Nat.zero_le _, Nat.zero_le _⟩ hl.1 rfl (Nat.le_of_ble_eq_true rfl) dX7_digest_115 (fun H locs hw => ?_)
                obtain ⟨σ60, k61, h⟩ := it_b h
                refine kV_v (As := [.int v57]) (rest := []) (q := 0) hx_E hw (c_X7_mixes l K ad hI  v57 σ58 k61) mi_X7_mixes mv_X7_mixes ml_X7_238 (by decide) rfl rfl rfl ⟨⟨Nat.le_of_ble_eq_true rfl, Nat.le_of_ble_eq_true rfl⟩, rfl, rfl⟩ ⟨Nat.zero_le _, Nat.zero_le _⟩ hl.1 rfl (Nat.le_of_ble_eq_true rfl) dX7_digest_118 (fun H locs hw => ?_)
                refine lv_iinc (v := (v50 + 1)) (lv' := [(1, .int (v50 + 1)), (0, .ref (ad 0))]) hx hb dX7_digest_121 hl (k := 1) rfl rfl (by decide) rfl (fun ls hl => ?_)
                refine lv_goto (tgt := 107) hx hb dX7_digest_124 (by decide) ?_
                exact ih _ _  H locs ls h hw (lv_sub hl [1, 0] rfl)
          exact hL53 600 _ _  H locs ls h9 hw (lv_sub hl [1, 0] rfl)
        have hL41 : ∀ (n9 : Nat) (v38 : Int32) (σ39 : vSt), ∀ (H : Heap) (locs : List Loc) (ls : Array Slot), f_X7_digest_85  n9 v38 σ39 = some φ43 → PW K 12 ad (cM K ad) A s.heap σ39 H locs → lv_has ls 2 [(0, .ref (ad 0)), (1, .int v38)] → W p l e (rmF 12 251) s m args below meth c H locs 0 0 Q (F0 m 85 ls []) := by
          intro n9
          induction n9 with
          | zero => intro v38 σ39 H locs ls h hw hl; rw [f_X7_digest_85.eq_1] at h; exact it_n h
          | succ n9 ih =>
            intro v38 σ39 H locs ls h hw hl
            rw [f_X7_digest_85.eq_2] at h
            refine lv_iload_n hx hb dX7_digest_85 rfl (lv_at hl 1 rfl) ?_
            refine lv_iconst (v := 5) hx hb dX7_digest_86 (by decide) ?_
            refine lv_icmp_ge (tgt := 105) hx hb dX7_digest_87 (by decide) (fun c44 => ?_) (fun c44 => ?_)
            · replace h := it_t c44 h
              have e9 := Option.some.inj h
              subst e9
              exact hJ42 _ rfl  H locs ls hw (lv_sub hl [0] rfl)
            · replace h := it_f c44 h
              refine lv_aload_n hx hb dX7_digest_90 rfl (lv_at hl 0 rfl) ?_
              refine lv_aload_n hx hb dX7_digest_91 rfl (lv_at hl 0 rfl) ?_
              refine lv_iload_n hx hb dX7_digest_92 rfl (lv_at hl 1 rfl) ?_
              obtain ⟨⟨v45, σ46⟩, k47, h⟩ := it_b h
              refine kV_i (As := [.int v38]) (rest := [.ref (ad 0)]) (q := 0) hx_E hw (c_X7_misfit l K ad hI  v38 σ39 k47) mi_X7_misfit mv_X7_misfit ml_X7_241 (by decide) rfl rfl rfl ⟨⟨Nat.le_of_ble_eq_true rfl, Nat.le_of_ble_eq_true rfl⟩, rfl, rfl⟩ ⟨Nat.zero_le _, Nat.zero_le _⟩ hl.1 rfl (Nat.le_of_ble_eq_true rfl) dX7_digest_93 (fun H locs hw => ?_)
              obtain ⟨σ48, k49, h⟩ := it_b h
              refine kV_v (As := [.int v45]) (rest := []) (q := 0) hx_E hw (c_X7_mixes l K ad hI  v45 σ46 k49) mi_X7_mixes mv_X7_mixes ml_X7_238 (by decide) rfl rfl rfl ⟨⟨Nat.le_of_ble_eq_true rfl, Nat.le_of_ble_eq_true rfl⟩, rfl, rfl⟩ ⟨Nat.zero_le _, Nat.zero_le _⟩ hl.1 rfl (Nat.le_of_ble_eq_true rfl) dX7_digest_96 (fun H locs hw => ?_)
              refine lv_iinc (v := (v38 + 1)) (lv' := [(1, .int (v38 + 1)), (0, .ref (ad 0))]) hx hb dX7_digest_99 hl (k := 1) rfl rfl (by decide) rfl (fun ls hl => ?_)
              refine lv_goto (tgt := 85) hx hb dX7_digest_102 (by decide) ?_
              exact ih _ _  H locs ls h hw (lv_sub hl [1, 0] rfl)
        exact hL41 600 _ _  H locs ls h9 hw (lv_sub hl [1, 0] rfl)
      have hL28 : ∀ (n9 : Nat) (v25 : Int32) (σ26 : vSt), ∀ (H : Heap) (locs : List Loc) (ls : Array Slot), f_X7_digest_60  n9 v25 σ26 = some φ30 → PW K 12 ad (cM K ad) A s.heap σ26 H locs → lv_has ls 2 [(0, .ref (ad 0)), (1, .int v25)] → W p l e (rmF 12 251) s m args below meth c H locs 0 0 Q (F0 m 60 ls []) := by
        intro n9
        induction n9 with
        | zero => intro v25 σ26 H locs ls h hw hl; rw [f_X7_digest_60.eq_1] at h; exact it_n h
        | succ n9 ih =>
          intro v25 σ26 H locs ls h hw hl
          rw [f_X7_digest_60.eq_2] at h
          refine lv_iload_n hx hb dX7_digest_60 rfl (lv_at hl 1 rfl) ?_
          refine lv_aload_n hx hb dX7_digest_61 rfl (lv_at hl 0 rfl) ?_
          obtain ⟨v31, k32, h⟩ := it_b h
          refine kV_i (As := []) (rest := [.int v25]) (q := 0) hx_E hw (c_X7_edges l K ad hI   σ26 k32) mi_X7_edges mv_X7_edges ml_X7_69 (by decide) rfl rfl rfl ⟨⟨Nat.le_of_ble_eq_true rfl, Nat.le_of_ble_eq_true rfl⟩, rfl, rfl⟩ ⟨Nat.zero_le _, Nat.zero_le _⟩ hl.1 rfl (Nat.le_of_ble_eq_true rfl) dX7_digest_62 (fun H locs hw => ?_)
          refine lv_icmp_ge (tgt := 83) hx hb dX7_digest_65 (by decide) (fun c33 => ?_) (fun c33 => ?_)
          · replace h := it_t c33 h
            have e9 := Option.some.inj h
            subst e9
            exact hJ29 _ rfl  H locs ls hw (lv_sub hl [0] rfl)
          · replace h := it_f c33 h
            refine lv_aload_n hx hb dX7_digest_68 rfl (lv_at hl 0 rfl) ?_
            refine lv_aload_n hx hb dX7_digest_69 rfl (lv_at hl 0 rfl) ?_
            refine lv_iload_n hx hb dX7_digest_70 rfl (lv_at hl 1 rfl) ?_
            obtain ⟨v34, k35, h⟩ := it_b h
            refine kV_i (As := [.int v25]) (rest := [.ref (ad 0)]) (q := 0) hx_E hw (c_X7_markOf l K ad hI  v25 σ26 k35) mi_X7_markOf mv_X7_markOf ml_X7_56 (by decide) rfl rfl rfl ⟨⟨Nat.le_of_ble_eq_true rfl, Nat.le_of_ble_eq_true rfl⟩, rfl, rfl⟩ ⟨Nat.zero_le _, Nat.zero_le _⟩ hl.1 rfl (Nat.le_of_ble_eq_true rfl) dX7_digest_71 (fun H locs hw => ?_)
            obtain ⟨σ36, k37, h⟩ := it_b h
            refine kV_v (As := [.int v34]) (rest := []) (q := 0) hx_E hw (c_X7_mixes l K ad hI  v34 σ26 k37) mi_X7_mixes mv_X7_mixes ml_X7_238 (by decide) rfl rfl rfl ⟨⟨Nat.le_of_ble_eq_true rfl, Nat.le_of_ble_eq_true rfl⟩, rfl, rfl⟩ ⟨Nat.zero_le _, Nat.zero_le _⟩ hl.1 rfl (Nat.le_of_ble_eq_true rfl) dX7_digest_74 (fun H locs hw => ?_)
            refine lv_iinc (v := (v25 + 1)) (lv' := [(1, .int (v25 + 1)), (0, .ref (ad 0))]) hx hb dX7_digest_77 hl (k := 1) rfl rfl (by decide) rfl (fun ls hl => ?_)
            refine lv_goto (tgt := 60) hx hb dX7_digest_80 (by decide) ?_
            exact ih _ _  H locs ls h hw (lv_sub hl [1, 0] rfl)
      exact hL28 600 _ _  H locs ls h9 hw (lv_sub hl [1, 0] rfl)
    have hL16 : ∀ (n9 : Nat) (v13 : Int32) (σ14 : vSt), ∀ (H : Heap) (locs : List Loc) (ls : Array Slot), f_X7_digest_32  n9 v13 σ14 = some φ18 → PW K 12 ad (cM K ad) A s.heap σ14 H locs → lv_has ls 2 [(0, .ref (ad 0)), (1, .int v13)] → W p l e (rmF 12 251) s m args below meth c H locs 0 0 Q (F0 m 32 ls []) := by
      intro n9
      induction n9 with
      | zero => intro v13 σ14 H locs ls h hw hl; rw [f_X7_digest_32.eq_1] at h; exact it_n h
      | succ n9 ih =>
        intro v13 σ14 H locs ls h hw hl
        rw [f_X7_digest_32.eq_2] at h
        refine lv_iload_n hx hb dX7_digest_32 rfl (lv_at hl 1 rfl) ?_
        refine lv_aload_n hx hb dX7_digest_33 rfl (lv_at hl 0 rfl) ?_
        obtain ⟨v19, k20, h⟩ := it_b h
        refine kV_i (As := []) (rest := [.int v13]) (q := 0) hx_E hw (c_X7_cells l K ad hI   σ14 k20) mi_X7_cells mv_X7_cells ml_X7_82 (by decide) rfl rfl rfl ⟨⟨Nat.le_of_ble_eq_true rfl, Nat.le_of_ble_eq_true rfl⟩, rfl, rfl⟩ ⟨Nat.zero_le _, Nat.zero_le _⟩ hl.1 rfl (Nat.le_of_ble_eq_true rfl) dX7_digest_34 (fun H locs hw => ?_)
        refine lv_icmp_ge (tgt := 58) hx hb dX7_digest_37 (by decide) (fun c21 => ?_) (fun c21 => ?_)
        · replace h := it_t c21 h
          have e9 := Option.some.inj h
          subst e9
          exact hJ17 _ rfl  H locs ls hw (lv_sub hl [0] rfl)
        · replace h := it_f c21 h
          refine lv_aload_n hx hb dX7_digest_40 rfl (lv_at hl 0 rfl) ?_
          refine lv_aload_n hx hb dX7_digest_41 rfl (lv_at hl 0 rfl) ?_
          refine gM_0_0 hx_E hw fl_X7_7 dX7_digest_42 ?_
          refine lv_iconst (v := 2) hx hb dX7_digest_45 (by decide) ?_
          refine lv_iload_n hx hb dX7_digest_46 rfl (lv_at hl 1 rfl) ?_
          refine lv_iadd hx hb dX7_digest_47 ?_
          obtain ⟨g22, h⟩ := it_g h
          refine aM_1 hx_E hw g22 dX7_digest_48 ?_
          obtain ⟨σ23, k24, h⟩ := it_b h
          refine kV_v (As := [.int (gI σ14 1 ((2 : Int32) + v13).toNatClampNeg)]) (rest := []) (q := 0) hx_E hw (c_X7_mixes l K ad hI  (gI σ14 1 ((2 : Int32) + v13).toNatClampNeg) σ14 k24) mi_X7_mixes mv_X7_mixes ml_X7_238 (by decide) rfl rfl rfl ⟨⟨Nat.le_of_ble_eq_true rfl, Nat.le_of_ble_eq_true rfl⟩, rfl, rfl⟩ ⟨Nat.zero_le _, Nat.zero_le _⟩ hl.1 rfl (Nat.le_of_ble_eq_true rfl) dX7_digest_49 (fun H locs hw => ?_)
          refine lv_iinc (v := (v13 + 1)) (lv' := [(1, .int (v13 + 1)), (0, .ref (ad 0))]) hx hb dX7_digest_52 hl (k := 1) rfl rfl (by decide) rfl (fun ls hl => ?_)
          refine lv_goto (tgt := 32) hx hb dX7_digest_55 (by decide) ?_
          exact ih _ _  H locs ls h hw (lv_sub hl [1, 0] rfl)
    exact hL16 600 _ _  H locs ls h9 hw (lv_sub hl [1, 0] rfl)
  have hL5 : ∀ (n9 : Nat) (v2 : Int32) (σ3 : vSt), ∀ (H : Heap) (locs : List Loc) (ls : Array Slot), f_X7_digest_9  n9 v2 σ3 = some φ7 → PW K 12 ad (cM K ad) A s.heap σ3 H locs → lv_has ls 2 [(0, .ref (ad 0)), (1, .int v2)] → W p l e (rmF 12 251) s m args below meth c H locs 0 0 Q (F0 m 9 ls []) := by
    intro n9
    induction n9 with
    | zero => intro v2 σ3 H locs ls h hw hl; rw [f_X7_digest_9.eq_1] at h; exact it_n h
    | succ n9 ih =>
      intro v2 σ3 H locs ls h hw hl
      rw [f_X7_digest_9.eq_2] at h
      refine lv_iload_n hx hb dX7_digest_9 rfl (lv_at hl 1 rfl) ?_
      refine lv_bipush (v := 16) hx hb dX7_digest_10 (by decide) ?_
      refine lv_icmp_ge (tgt := 30) hx hb dX7_digest_12 (by decide) (fun c8 => ?_) (fun c8 => ?_)
      · replace h := it_t c8 h
        have e9 := Option.some.inj h
        subst e9
        exact hJ6 _ rfl  H locs ls hw (lv_sub hl [0] rfl)
      · replace h := it_f c8 h
        refine lv_aload_n hx hb dX7_digest_15 rfl (lv_at hl 0 rfl) ?_
        refine lv_aload_n hx hb dX7_digest_16 rfl (lv_at hl 0 rfl) ?_
        refine lv_iload_n hx hb dX7_digest_17 rfl (lv_at hl 1 rfl) ?_
        obtain ⟨v9, k10, h⟩ := it_b h
        refine kV_i (As := [.int v2]) (rest := [.ref (ad 0)]) (q := 0) hx_E hw (c_X7_count l K ad hI  v2 σ3 k10) mi_X7_count mv_X7_count ml_X7_235 (by decide) rfl rfl rfl ⟨⟨Nat.le_of_ble_eq_true rfl, Nat.le_of_ble_eq_true rfl⟩, rfl, rfl⟩ ⟨Nat.zero_le _, Nat.zero_le _⟩ hl.1 rfl (Nat.le_of_ble_eq_true rfl) dX7_digest_18 (fun H locs hw => ?_)
        obtain ⟨σ11, k12, h⟩ := it_b h
        refine kV_v (As := [.int v9]) (rest := []) (q := 0) hx_E hw (c_X7_mixes l K ad hI  v9 σ3 k12) mi_X7_mixes mv_X7_mixes ml_X7_238 (by decide) rfl rfl rfl ⟨⟨Nat.le_of_ble_eq_true rfl, Nat.le_of_ble_eq_true rfl⟩, rfl, rfl⟩ ⟨Nat.zero_le _, Nat.zero_le _⟩ hl.1 rfl (Nat.le_of_ble_eq_true rfl) dX7_digest_21 (fun H locs hw => ?_)
        refine lv_iinc (v := (v2 + 1)) (lv' := [(1, .int (v2 + 1)), (0, .ref (ad 0))]) hx hb dX7_digest_24 hl (k := 1) rfl rfl (by decide) rfl (fun ls hl => ?_)
        refine lv_goto (tgt := 9) hx hb dX7_digest_27 (by decide) ?_
        exact ih _ _  H locs ls h hw (lv_sub hl [1, 0] rfl)
  exact hL5 600 _ _  H locs ls h9 hw (lv_sub hl [1, 0] rfl)
