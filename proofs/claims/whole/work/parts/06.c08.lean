set_option maxHeartbeats 4000000 in
set_option maxRecDepth 100000 in
theorem c_X7_setPuzzle (l : Launch) (K : vK) (ad : Nat → Nat) (hI : adInj 12 ad) (σ : vSt) {r : Int32} {σ' : vSt} (h : f_X7_setPuzzle σ = some (r, σ')) : MCi l yX7_setPuzzle (wsY yX7_setPuzzle cX7_setPuzzle 2 (some .int)) (rmF 4 67) K 12 ad (cM K ad) [.ref (ad 0)] σ r σ' := by
  refine MCi_of (own := RX7) (plainFor_of_name (by decide)) hI rfl (Nat.le_of_ble_eq_true rfl) ?_
  intro p e s m args below meth c A Q hx_E hE H locs ls hw hl
  have hx := hx_E.1; have hb := hx_E.2.1; have hown := hx_E.2.2.2.1; have hts := hx_E.2.2.2.2.1
  replace hl : lv_has ls 2 [(0, .ref (ad 0))] := hl
  unfold f_X7_setPuzzle at h
  refine lv_aload_n hx hb dX7_setPuzzle_0 rfl (lv_at hl 0 rfl) ?_
  obtain ⟨σ1, k2, h⟩ := it_b h
  refine kV_v (As := []) (rest := []) (q := 0) hx_E hw (c_X7_reads l K ad hI   σ k2) mi_X7_reads mv_X7_reads ml_X7_187 (by decide) rfl rfl rfl ⟨⟨Nat.le_of_ble_eq_true rfl, Nat.le_of_ble_eq_true rfl⟩, rfl, rfl⟩ ⟨Nat.zero_le _, Nat.zero_le _⟩ hl.1 rfl (Nat.le_of_ble_eq_true rfl) dX7_setPuzzle_1 (fun H locs hw => ?_)
  refine lv_aload_n hx hb dX7_setPuzzle_4 rfl (lv_at hl 0 rfl) ?_
  refine gM_0_22 hx_E hw fl_X7_181 dX7_setPuzzle_5 ?_
  refine lv_iconst (v := -1) hx hb dX7_setPuzzle_8 (by decide) ?_
  refine lv_icmp_eq (tgt := 15) hx hb dX7_setPuzzle_9 (by decide) (fun c3 => ?_) (fun c3 => ?_)
  · replace h := it_t c3 h
    refine lv_aload_n hx hb dX7_setPuzzle_15 rfl (lv_at hl 0 rfl) ?_
    obtain ⟨σ4, k5, h⟩ := it_b h
    refine kV_v (As := []) (rest := []) (q := 0) hx_E hw (c_X7_keeps l K ad hI   σ1 k5) mi_X7_keeps mv_X7_keeps ml_X7_190 (by decide) rfl rfl rfl ⟨⟨Nat.le_of_ble_eq_true rfl, Nat.le_of_ble_eq_true rfl⟩, rfl, rfl⟩ ⟨Nat.zero_le _, Nat.zero_le _⟩ hl.1 rfl (Nat.le_of_ble_eq_true rfl) dX7_setPuzzle_16 (fun H locs hw => ?_)
    refine lv_aload_n hx hb dX7_setPuzzle_19 rfl (lv_at hl 0 rfl) ?_
    refine gM_0_0 hx_E hw fl_X7_7 dX7_setPuzzle_20 ?_
    refine lv_iconst (v := 0) hx hb dX7_setPuzzle_23 (by decide) ?_
    refine lv_aload_n hx hb dX7_setPuzzle_24 rfl (lv_at hl 0 rfl) ?_
    refine gM_0_19 hx_E hw fl_X7_178 dX7_setPuzzle_25 ?_
    refine scM_1 hx_E hw (by decide) rfl dX7_setPuzzle_28 (fun H locs hw => ?_)
    refine lv_aload_n hx hb dX7_setPuzzle_29 rfl (lv_at hl 0 rfl) ?_
    refine gM_0_0 hx_E hw fl_X7_7 dX7_setPuzzle_30 ?_
    refine lv_iconst (v := 1) hx hb dX7_setPuzzle_33 (by decide) ?_
    refine lv_aload_n hx hb dX7_setPuzzle_34 rfl (lv_at hl 0 rfl) ?_
    refine gM_0_20 hx_E hw fl_X7_175 dX7_setPuzzle_35 ?_
    refine scM_1 hx_E hw (by decide) rfl dX7_setPuzzle_38 (fun H locs hw => ?_)
    refine lv_iconst (v := 0) hx hb dX7_setPuzzle_39 (by decide) ?_
    refine lv_istore_n (lv' := [(1, .int (0 : Int32)), (0, .ref (ad 0))]) hx hb dX7_setPuzzle_40 rfl hl (by decide) rfl (fun ls hl => ?_)
    obtain ⟨σ6, e_σ6, h⟩ := it_b h
    replace hw := PW_cast (Option.some.inj e_σ6) hw
    obtain ⟨φ12, h9, h_φ12⟩ := it_b h
    have hJ11 : ∀ (σ9 : vSt), σ9 = φ12 → ∀ (H : Heap) (locs : List Loc) (ls : Array Slot), PW K 12 ad (cM K ad) A s.heap σ9 H locs → lv_has ls 2 [(0, .ref (ad 0))] → W p l e (rmF 4 67) s m args below meth c H locs 0 0 Q (F0 m 93 ls []) := by
      intro σ9 e9 H locs ls hw hl
      subst e9
      replace h := h_φ12
      refine lv_bipush (v := 18) hx hb dX7_setPuzzle_93 (by decide) ?_
      refine lv_istore_n (lv' := [(1, .int (18 : Int32)), (0, .ref (ad 0))]) hx hb dX7_setPuzzle_95 rfl hl (by decide) rfl (fun ls hl => ?_)
      obtain ⟨φ27, h9, h_φ27⟩ := it_b h
      have hJ26 : ∀ (σ24 : vSt), σ24 = φ27 → ∀ (H : Heap) (locs : List Loc) (ls : Array Slot), PW K 12 ad (cM K ad) A s.heap σ24 H locs → lv_has ls 2 [(0, .ref (ad 0))] → W p l e (rmF 4 67) s m args below meth c H locs 0 0 Q (F0 m 115 ls []) := by
        intro σ24 e9 H locs ls hw hl
        subst e9
        replace h := h_φ27
        refine lv_aload_n hx hb dX7_setPuzzle_115 rfl (lv_at hl 0 rfl) ?_
        obtain ⟨v30, k31, h⟩ := it_b h
        refine kV_i (As := []) (rest := []) (q := 0) hx_E hw (c_X7_edges l K ad hI   σ24 k31) mi_X7_edges mv_X7_edges ml_X7_69 (by decide) rfl rfl rfl ⟨⟨Nat.le_of_ble_eq_true rfl, Nat.le_of_ble_eq_true rfl⟩, rfl, rfl⟩ ⟨Nat.zero_le _, Nat.zero_le _⟩ hl.1 rfl (Nat.le_of_ble_eq_true rfl) dX7_setPuzzle_116 (fun H locs hw => ?_)
        exact hE hw (congrArg Prod.fst (Option.some.inj h)) (congrArg Prod.snd (Option.some.inj h)) dX7_setPuzzle_119
      have hL25 : ∀ (n9 : Nat) (v22 : Int32) (σ23 : vSt), ∀ (H : Heap) (locs : List Loc) (ls : Array Slot), f_X7_setPuzzle_96  n9 v22 σ23 = some φ27 → PW K 12 ad (cM K ad) A s.heap σ23 H locs → lv_has ls 2 [(0, .ref (ad 0)), (1, .int v22)] → W p l e (rmF 4 67) s m args below meth c H locs 0 0 Q (F0 m 96 ls []) := by
        intro n9
        induction n9 with
        | zero => intro v22 σ23 H locs ls h hw hl; rw [f_X7_setPuzzle_96.eq_1] at h; exact it_n h
        | succ n9 ih =>
          intro v22 σ23 H locs ls h hw hl
          rw [f_X7_setPuzzle_96.eq_2] at h
          refine lv_iload_n hx hb dX7_setPuzzle_96 rfl (lv_at hl 1 rfl) ?_
          refine lv_bipush (v := 66) hx hb dX7_setPuzzle_97 (by decide) ?_
          refine lv_icmp_ge (tgt := 115) hx hb dX7_setPuzzle_99 (by decide) (fun c28 => ?_) (fun c28 => ?_)
          · replace h := it_t c28 h
            have e9 := Option.some.inj h
            subst e9
            exact hJ26 _ rfl  H locs ls hw (lv_sub hl [0] rfl)
          · replace h := it_f c28 h
            refine lv_aload_n hx hb dX7_setPuzzle_102 rfl (lv_at hl 0 rfl) ?_
            refine gM_0_0 hx_E hw fl_X7_7 dX7_setPuzzle_103 ?_
            refine lv_iload_n hx hb dX7_setPuzzle_106 rfl (lv_at hl 1 rfl) ?_
            refine lv_iconst (v := 0) hx hb dX7_setPuzzle_107 (by decide) ?_
            obtain ⟨g29, h⟩ := it_g h
            refine sM_1 hx_E hw g29 dX7_setPuzzle_108 (fun H locs hw => ?_)
            refine lv_iinc (v := (v22 + 1)) (lv' := [(1, .int (v22 + 1)), (0, .ref (ad 0))]) hx hb dX7_setPuzzle_109 hl (k := 1) rfl rfl (by decide) rfl (fun ls hl => ?_)
            refine lv_goto (tgt := 96) hx hb dX7_setPuzzle_112 (by decide) ?_
            exact ih _ _  H locs ls h hw (lv_sub hl [1, 0] rfl)
      exact hL25 600 _ _  H locs ls h9 hw (lv_sub hl [1, 0] rfl)
    have hL10 : ∀ (n9 : Nat) (v7 : Int32) (σ8 : vSt), ∀ (H : Heap) (locs : List Loc) (ls : Array Slot), f_X7_setPuzzle_41  n9 v7 σ8 = some φ12 → PW K 12 ad (cM K ad) A s.heap σ8 H locs → lv_has ls 2 [(0, .ref (ad 0)), (1, .int v7)] → W p l e (rmF 4 67) s m args below meth c H locs 0 0 Q (F0 m 41 ls []) := by
      intro n9
      induction n9 with
      | zero => intro v7 σ8 H locs ls h hw hl; rw [f_X7_setPuzzle_41.eq_1] at h; exact it_n h
      | succ n9 ih =>
        intro v7 σ8 H locs ls h hw hl
        rw [f_X7_setPuzzle_41.eq_2] at h
        refine lv_iload_n hx hb dX7_setPuzzle_41 rfl (lv_at hl 1 rfl) ?_
        refine lv_bipush (v := 16) hx hb dX7_setPuzzle_42 (by decide) ?_
        refine lv_icmp_ge (tgt := 93) hx hb dX7_setPuzzle_44 (by decide) (fun c13 => ?_) (fun c13 => ?_)
        · replace h := it_t c13 h
          have e9 := Option.some.inj h
          subst e9
          exact hJ11 _ rfl  H locs ls hw (lv_sub hl [0] rfl)
        · replace h := it_f c13 h
          refine lv_aload_n hx hb dX7_setPuzzle_47 rfl (lv_at hl 0 rfl) ?_
          refine gM_0_0 hx_E hw fl_X7_7 dX7_setPuzzle_48 ?_
          refine lv_iconst (v := 2) hx hb dX7_setPuzzle_51 (by decide) ?_
          refine lv_iload_n hx hb dX7_setPuzzle_52 rfl (lv_at hl 1 rfl) ?_
          refine lv_iadd hx hb dX7_setPuzzle_53 ?_
          refine lv_iload_n hx hb dX7_setPuzzle_54 rfl (lv_at hl 1 rfl) ?_
          refine lv_aload_n hx hb dX7_setPuzzle_55 rfl (lv_at hl 0 rfl) ?_
          obtain ⟨v14, k15, h⟩ := it_b h
          refine kV_i (As := []) (rest := [.int v7, .int ((2 : Int32) + v7), .ref (ad 1)]) (q := 0) hx_E hw (c_X7_cells l K ad hI   σ8 k15) mi_X7_cells mv_X7_cells ml_X7_82 (by decide) rfl rfl rfl ⟨⟨Nat.le_of_ble_eq_true rfl, Nat.le_of_ble_eq_true rfl⟩, rfl, rfl⟩ ⟨Nat.zero_le _, Nat.zero_le _⟩ hl.1 rfl (Nat.le_of_ble_eq_true rfl) dX7_setPuzzle_56 (fun H locs hw => ?_)
          refine lv_icmp_ge (tgt := 85) hx hb dX7_setPuzzle_59 (by decide) (fun c16 => ?_) (fun c16 => ?_)
          · replace h := it_t c16 h
            refine lv_iconst (v := -1) hx hb dX7_setPuzzle_85 (by decide) ?_
            obtain ⟨g17, h⟩ := it_g h
            refine sM_1 hx_E hw g17 dX7_setPuzzle_86 (fun H locs hw => ?_)
            refine lv_iinc (v := (v7 + 1)) (lv' := [(1, .int (v7 + 1)), (0, .ref (ad 0))]) hx hb dX7_setPuzzle_87 hl (k := 1) rfl rfl (by decide) rfl (fun ls hl => ?_)
            refine lv_goto (tgt := 41) hx hb dX7_setPuzzle_90 (by decide) ?_
            exact ih _ _  H locs ls h hw (lv_sub hl [1, 0] rfl)
          · replace h := it_f c16 h
            refine lv_aload_n hx hb dX7_setPuzzle_62 rfl (lv_at hl 0 rfl) ?_
            refine gM_0_18 hx_E hw fl_X7_32 dX7_setPuzzle_63 ?_
            refine lv_iload_n hx hb dX7_setPuzzle_66 rfl (lv_at hl 1 rfl) ?_
            refine lv_aload_n hx hb dX7_setPuzzle_67 rfl (lv_at hl 0 rfl) ?_
            refine gM_0_19 hx_E hw fl_X7_178 dX7_setPuzzle_68 ?_
            obtain ⟨g18, h⟩ := it_g h
            refine lv_idiv hx hb dX7_setPuzzle_71 g18 ?_
            refine lv_iconst (v := 4) hx hb dX7_setPuzzle_72 (by decide) ?_
            refine lv_imul hx hb dX7_setPuzzle_73 ?_
            refine lv_iload_n hx hb dX7_setPuzzle_74 rfl (lv_at hl 1 rfl) ?_
            refine lv_aload_n hx hb dX7_setPuzzle_75 rfl (lv_at hl 0 rfl) ?_
            refine gM_0_19 hx_E hw fl_X7_178 dX7_setPuzzle_76 ?_
            obtain ⟨g19, h⟩ := it_g h
            refine lv_irem hx hb dX7_setPuzzle_79 g19 ?_
            refine lv_iadd hx hb dX7_setPuzzle_80 ?_
            obtain ⟨g20, h⟩ := it_g h
            refine aM_8 hx_E hw g20 dX7_setPuzzle_81 ?_
            refine lv_goto (tgt := 86) hx hb dX7_setPuzzle_82 (by decide) ?_
            obtain ⟨g21, h⟩ := it_g h
            refine sM_1 hx_E hw g21 dX7_setPuzzle_86 (fun H locs hw => ?_)
            refine lv_iinc (v := (v7 + 1)) (lv' := [(1, .int (v7 + 1)), (0, .ref (ad 0))]) hx hb dX7_setPuzzle_87 hl (k := 1) rfl rfl (by decide) rfl (fun ls hl => ?_)
            refine lv_goto (tgt := 41) hx hb dX7_setPuzzle_90 (by decide) ?_
            exact ih _ _  H locs ls h hw (lv_sub hl [1, 0] rfl)
    exact hL10 600 _ _  H locs ls h9 hw (lv_sub hl [1, 0] rfl)
  · replace h := it_f c3 h
    refine lv_bipush (v := -3) hx hb dX7_setPuzzle_12 (by decide) ?_
    exact hE hw (congrArg Prod.fst (Option.some.inj h)) (congrArg Prod.snd (Option.some.inj h)) dX7_setPuzzle_14
set_option maxHeartbeats 4000000 in
set_option maxRecDepth 100000 in
theorem c_X7_setCount (l : Launch) (K : vK) (ad : Nat → Nat) (hI : adInj 12 ad) (l1 : Int32) (l2 : Int32) (σ : vSt) {r : Int32} {σ' : vSt} (h : f_X7_setCount l1 l2 σ = some (r, σ')) : MCi l yX7_setCount (wsY yX7_setCount cX7_setCount 4 (some .int)) (rmF 2 22) K 12 ad (cM K ad) [.ref (ad 0), .int l1, .int l2] σ r σ' := by
  refine MCi_of (own := RX7) (plainFor_of_name (by decide)) hI rfl (Nat.le_of_ble_eq_true rfl) ?_
  intro p e s m args below meth c A Q hx_E hE H locs ls hw hl
  have hx := hx_E.1; have hb := hx_E.2.1; have hown := hx_E.2.2.2.1; have hts := hx_E.2.2.2.2.1
  replace hl : lv_has ls 4 [(0, .ref (ad 0)), (1, .int l1), (2, .int l2)] := hl
  unfold f_X7_setCount at h
  refine lv_iload_n hx hb dX7_setCount_0 rfl (lv_at hl 1 rfl) ?_
  refine lv_iconst (v := 0) hx hb dX7_setCount_1 (by decide) ?_
  refine lv_aload_n hx hb dX7_setCount_2 rfl (lv_at hl 0 rfl) ?_
  obtain ⟨v1, k2, h⟩ := it_b h
  refine kV_i (As := []) (rest := [.int (0 : Int32), .int l1]) (q := 0) hx_E hw (c_X7_cells l K ad hI   σ k2) mi_X7_cells mv_X7_cells ml_X7_82 (by decide) rfl rfl rfl ⟨⟨Nat.le_of_ble_eq_true rfl, Nat.le_of_ble_eq_true rfl⟩, rfl, rfl⟩ ⟨Nat.zero_le _, Nat.zero_le _⟩ hl.1 rfl (Nat.le_of_ble_eq_true rfl) dX7_setCount_3 (fun H locs hw => ?_)
  refine lv_iconst (v := 1) hx hb dX7_setCount_6 (by decide) ?_
  refine lv_isub hx hb dX7_setCount_7 ?_
  obtain ⟨v3, k4, h⟩ := it_b h
  refine kS_z (As := [.int l1, .int (0 : Int32), .int (v1 - (1 : Int32))]) (rest := []) hx_E hw (c_X7_in l K l1 (0 : Int32) (v1 - (1 : Int32)) k4) mi_X7_in sm_X7_in ml_X7_162 rfl ⟨⟨Nat.le_of_ble_eq_true rfl, Nat.le_of_ble_eq_true rfl⟩, rfl, rfl⟩ ⟨Nat.zero_le _, Nat.zero_le _⟩ hl.1 rfl (Nat.le_of_ble_eq_true rfl) dX7_setCount_8 (fun z5 H locs hw => ?_)
  refine lv_if_eq (tgt := 23) hx hb dX7_setCount_11 (by decide) (fun c6 => ?_) (fun c6 => ?_)
  · replace h := it_t c6 h
    refine lv_bipush (v := -2) hx hb dX7_setCount_23 (by decide) ?_
    exact hE hw (congrArg Prod.fst (Option.some.inj h)) (congrArg Prod.snd (Option.some.inj h)) dX7_setCount_25
  · replace h := it_f c6 h
    refine lv_iload_n hx hb dX7_setCount_14 rfl (lv_at hl 2 rfl) ?_
    refine lv_iconst (v := -1) hx hb dX7_setCount_15 (by decide) ?_
    refine lv_iconst (v := 3) hx hb dX7_setCount_16 (by decide) ?_
    obtain ⟨v7, k8, h⟩ := it_b h
    refine kS_z (As := [.int l2, .int (-1 : Int32), .int (3 : Int32)]) (rest := []) hx_E hw (c_X7_in l K l2 (-1 : Int32) (3 : Int32) k8) mi_X7_in sm_X7_in ml_X7_162 rfl ⟨⟨Nat.le_of_ble_eq_true rfl, Nat.le_of_ble_eq_true rfl⟩, rfl, rfl⟩ ⟨Nat.zero_le _, Nat.zero_le _⟩ hl.1 rfl (Nat.le_of_ble_eq_true rfl) dX7_setCount_17 (fun z9 H locs hw => ?_)
    refine lv_if_ne (tgt := 26) hx hb dX7_setCount_20 (by decide) (fun c10 => ?_) (fun c10 => ?_)
    · replace h := it_f c10 h
      refine lv_aload_n hx hb dX7_setCount_26 rfl (lv_at hl 0 rfl) ?_
      obtain ⟨σ11, k12, h⟩ := it_b h
      refine kV_v (As := []) (rest := []) (q := 0) hx_E hw (c_X7_keeps l K ad hI   σ k12) mi_X7_keeps mv_X7_keeps ml_X7_190 (by decide) rfl rfl rfl ⟨⟨Nat.le_of_ble_eq_true rfl, Nat.le_of_ble_eq_true rfl⟩, rfl, rfl⟩ ⟨Nat.zero_le _, Nat.zero_le _⟩ hl.1 rfl (Nat.le_of_ble_eq_true rfl) dX7_setCount_27 (fun H locs hw => ?_)
      refine lv_aload_n hx hb dX7_setCount_30 rfl (lv_at hl 0 rfl) ?_
      refine gM_0_0 hx_E hw fl_X7_7 dX7_setCount_31 ?_
      refine lv_iconst (v := 2) hx hb dX7_setCount_34 (by decide) ?_
      refine lv_iload_n hx hb dX7_setCount_35 rfl (lv_at hl 1 rfl) ?_
      refine lv_iadd hx hb dX7_setCount_36 ?_
      obtain ⟨g13, h⟩ := it_g h
      refine aM_1 hx_E hw g13 dX7_setCount_37 ?_
      obtain ⟨v14, e_v14, h⟩ := it_b h
      refine lt_topi (Option.some.inj e_v14) ?_
      refine lv_istore_n (lv' := [(3, .int v14), (0, .ref (ad 0)), (1, .int l1), (2, .int l2)]) hx hb dX7_setCount_38 rfl hl (by decide) rfl (fun ls hl => ?_)
      refine lv_aload_n hx hb dX7_setCount_39 rfl (lv_at hl 1 rfl) ?_
      refine gM_0_0 hx_E hw fl_X7_7 dX7_setCount_40 ?_
      refine lv_iconst (v := 2) hx hb dX7_setCount_43 (by decide) ?_
      refine lv_iload_n hx hb dX7_setCount_44 rfl (lv_at hl 2 rfl) ?_
      refine lv_iadd hx hb dX7_setCount_45 ?_
      refine lv_iload_n hx hb dX7_setCount_46 rfl (lv_at hl 3 rfl) ?_
      obtain ⟨g15, h⟩ := it_g h
      refine sM_1 hx_E hw g15 dX7_setCount_47 (fun H locs hw => ?_)
      refine lv_iload_n hx hb dX7_setCount_48 rfl (lv_at hl 0 rfl) ?_
      exact hE hw (congrArg Prod.fst (Option.some.inj h)) (congrArg Prod.snd (Option.some.inj h)) dX7_setCount_49
    · replace h := it_t c10 h
      refine lv_bipush (v := -2) hx hb dX7_setCount_23 (by decide) ?_
      exact hE hw (congrArg Prod.fst (Option.some.inj h)) (congrArg Prod.snd (Option.some.inj h)) dX7_setCount_25
set_option maxHeartbeats 4000000 in
set_option maxRecDepth 100000 in
theorem c_X7_mark (l : Launch) (K : vK) (ad : Nat → Nat) (hI : adInj 12 ad) (l1 : Int32) (l2 : Int32) (σ : vSt) {r : Int32} {σ' : vSt} (h : f_X7_mark l1 l2 σ = some (r, σ')) : MCi l yX7_mark (wsY yX7_mark cX7_mark 4 (some .int)) (rmF 3 40) K 12 ad (cM K ad) [.ref (ad 0), .int l1, .int l2] σ r σ' := by
  refine MCi_of (own := RX7) (plainFor_of_name (by decide)) hI rfl (Nat.le_of_ble_eq_true rfl) ?_
  intro p e s m args below meth c A Q hx_E hE H locs ls hw hl
  have hx := hx_E.1; have hb := hx_E.2.1; have hown := hx_E.2.2.2.1; have hts := hx_E.2.2.2.2.1
  replace hl : lv_has ls 4 [(0, .ref (ad 0)), (1, .int l1), (2, .int l2)] := hl
  unfold f_X7_mark at h
  refine lv_iload_n hx hb dX7_mark_0 rfl (lv_at hl 1 rfl) ?_
  refine lv_iconst (v := 0) hx hb dX7_mark_1 (by decide) ?_
  refine lv_aload_n hx hb dX7_mark_2 rfl (lv_at hl 0 rfl) ?_
  obtain ⟨v1, k2, h⟩ := it_b h
  refine kV_i (As := []) (rest := [.int (0 : Int32), .int l1]) (q := 0) hx_E hw (c_X7_edges l K ad hI   σ k2) mi_X7_edges mv_X7_edges ml_X7_69 (by decide) rfl rfl rfl ⟨⟨Nat.le_of_ble_eq_true rfl, Nat.le_of_ble_eq_true rfl⟩, rfl, rfl⟩ ⟨Nat.zero_le _, Nat.zero_le _⟩ hl.1 rfl (Nat.le_of_ble_eq_true rfl) dX7_mark_3 (fun H locs hw => ?_)
  refine lv_iconst (v := 1) hx hb dX7_mark_6 (by decide) ?_
  refine lv_isub hx hb dX7_mark_7 ?_
  obtain ⟨v3, k4, h⟩ := it_b h
  refine kS_z (As := [.int l1, .int (0 : Int32), .int (v1 - (1 : Int32))]) (rest := []) hx_E hw (c_X7_in l K l1 (0 : Int32) (v1 - (1 : Int32)) k4) mi_X7_in sm_X7_in ml_X7_162 rfl ⟨⟨Nat.le_of_ble_eq_true rfl, Nat.le_of_ble_eq_true rfl⟩, rfl, rfl⟩ ⟨Nat.zero_le _, Nat.zero_le _⟩ hl.1 rfl (Nat.le_of_ble_eq_true rfl) dX7_mark_8 (fun z5 H locs hw => ?_)
  refine lv_if_eq (tgt := 23) hx hb dX7_mark_11 (by decide) (fun c6 => ?_) (fun c6 => ?_)
  · replace h := it_t c6 h
    refine lv_bipush (v := -2) hx hb dX7_mark_23 (by decide) ?_
    exact hE hw (congrArg Prod.fst (Option.some.inj h)) (congrArg Prod.snd (Option.some.inj h)) dX7_mark_25
  · replace h := it_f c6 h
    refine lv_iload_n hx hb dX7_mark_14 rfl (lv_at hl 2 rfl) ?_
    refine lv_iconst (v := 0) hx hb dX7_mark_15 (by decide) ?_
    refine lv_iconst (v := 2) hx hb dX7_mark_16 (by decide) ?_
    obtain ⟨v7, k8, h⟩ := it_b h
    refine kS_z (As := [.int l2, .int (0 : Int32), .int (2 : Int32)]) (rest := []) hx_E hw (c_X7_in l K l2 (0 : Int32) (2 : Int32) k8) mi_X7_in sm_X7_in ml_X7_162 rfl ⟨⟨Nat.le_of_ble_eq_true rfl, Nat.le_of_ble_eq_true rfl⟩, rfl, rfl⟩ ⟨Nat.zero_le _, Nat.zero_le _⟩ hl.1 rfl (Nat.le_of_ble_eq_true rfl) dX7_mark_17 (fun z9 H locs hw => ?_)
    refine lv_if_ne (tgt := 26) hx hb dX7_mark_20 (by decide) (fun c10 => ?_) (fun c10 => ?_)
    · replace h := it_f c10 h
      refine lv_aload_n hx hb dX7_mark_26 rfl (lv_at hl 0 rfl) ?_
      obtain ⟨σ11, k12, h⟩ := it_b h
      refine kV_v (As := []) (rest := []) (q := 0) hx_E hw (c_X7_keeps l K ad hI   σ k12) mi_X7_keeps mv_X7_keeps ml_X7_190 (by decide) rfl rfl rfl ⟨⟨Nat.le_of_ble_eq_true rfl, Nat.le_of_ble_eq_true rfl⟩, rfl, rfl⟩ ⟨Nat.zero_le _, Nat.zero_le _⟩ hl.1 rfl (Nat.le_of_ble_eq_true rfl) dX7_mark_27 (fun H locs hw => ?_)
      refine lv_aload_n hx hb dX7_mark_30 rfl (lv_at hl 0 rfl) ?_
      refine lv_iload_n hx hb dX7_mark_31 rfl (lv_at hl 1 rfl) ?_
      obtain ⟨v13, k14, h⟩ := it_b h
      refine kV_i (As := [.int l1]) (rest := []) (q := 0) hx_E hw (c_X7_markOf l K ad hI  l1 σ11 k14) mi_X7_markOf mv_X7_markOf ml_X7_56 (by decide) rfl rfl rfl ⟨⟨Nat.le_of_ble_eq_true rfl, Nat.le_of_ble_eq_true rfl⟩, rfl, rfl⟩ ⟨Nat.zero_le _, Nat.zero_le _⟩ hl.1 rfl (Nat.le_of_ble_eq_true rfl) dX7_mark_32 (fun H locs hw => ?_)
      refine lv_istore_n (lv' := [(3, .int v13), (0, .ref (ad 0)), (1, .int l1), (2, .int l2)]) hx hb dX7_mark_35 rfl hl (by decide) rfl (fun ls hl => ?_)
      refine lv_aload_n hx hb dX7_mark_36 rfl (lv_at hl 1 rfl) ?_
      refine gM_0_0 hx_E hw fl_X7_7 dX7_mark_37 ?_
      refine lv_bipush (v := 18) hx hb dX7_mark_40 (by decide) ?_
      refine lv_iload_n hx hb dX7_mark_42 rfl (lv_at hl 2 rfl) ?_
      refine lv_iadd hx hb dX7_mark_43 ?_
      refine lv_iload_n hx hb dX7_mark_44 rfl (lv_at hl 3 rfl) ?_
      obtain ⟨g15, h⟩ := it_g h
      refine sM_1 hx_E hw g15 dX7_mark_45 (fun H locs hw => ?_)
      refine lv_iload_n hx hb dX7_mark_46 rfl (lv_at hl 0 rfl) ?_
      exact hE hw (congrArg Prod.fst (Option.some.inj h)) (congrArg Prod.snd (Option.some.inj h)) dX7_mark_47
    · replace h := it_t c10 h
      refine lv_bipush (v := -2) hx hb dX7_mark_23 (by decide) ?_
      exact hE hw (congrArg Prod.fst (Option.some.inj h)) (congrArg Prod.snd (Option.some.inj h)) dX7_mark_25
set_option maxHeartbeats 4000000 in
set_option maxRecDepth 100000 in
theorem c_X7_marked (l : Launch) (K : vK) (ad : Nat → Nat) (hI : adInj 12 ad) (l1 : Int32) (σ : vSt) {r : Int32} (h : f_X7_marked l1 σ = some r) : MCi l yX7_marked (wsY yX7_marked cX7_marked 4 (some .int)) (rmF 3 40) K 12 ad (cM K ad) [.ref (ad 0), .int l1] σ r σ := by
  refine MCi_of (own := RX7) (plainFor_of_name (by decide)) hI rfl (Nat.le_of_ble_eq_true rfl) ?_
  intro p e s m args below meth c A Q hx_E hE H locs ls hw hl
  have hx := hx_E.1; have hb := hx_E.2.1; have hown := hx_E.2.2.2.1; have hts := hx_E.2.2.2.2.1
  replace hl : lv_has ls 4 [(0, .ref (ad 0)), (1, .int l1)] := hl
  unfold f_X7_marked at h
  refine lv_iconst (v := 0) hx hb dX7_marked_0 (by decide) ?_
  refine lv_istore_n (lv' := [(2, .int (0 : Int32)), (0, .ref (ad 0)), (1, .int l1)]) hx hb dX7_marked_1 rfl hl (by decide) rfl (fun ls hl => ?_)
  refine lv_iconst (v := 0) hx hb dX7_marked_2 (by decide) ?_
  refine lv_istore_n (lv' := [(3, .int (0 : Int32)), (2, .int (0 : Int32)), (0, .ref (ad 0)), (1, .int l1)]) hx hb dX7_marked_3 rfl hl (by decide) rfl (fun ls hl => ?_)
  obtain ⟨φ6, h9, h_φ6⟩ := it_b h
  have hJ5 : ∀ (v3 : Int32), v3 = φ6 → ∀ (H : Heap) (locs : List Loc) (ls : Array Slot), PW K 12 ad (cM K ad) A s.heap σ H locs → lv_has ls 4 [(2, .int v3)] → W p l e (rmF 3 40) s m args below meth c H locs 0 0 Q (F0 m 35 ls []) := by
    intro v3 e9 H locs ls hw hl
    subst e9
    replace h := h_φ6
    refine lv_iload_n hx hb dX7_marked_35 rfl (lv_at hl 0 rfl) ?_
    exact hE hw (Option.some.inj h) rfl dX7_marked_36
  have hL4 : ∀ (n9 : Nat) (v1 : Int32) (v2 : Int32), ∀ (H : Heap) (locs : List Loc) (ls : Array Slot), f_X7_marked_4 l1 σ n9 v1 v2 = some φ6 → PW K 12 ad (cM K ad) A s.heap σ H locs → lv_has ls 4 [(0, .ref (ad 0)), (1, .int l1), (2, .int v1), (3, .int v2)] → W p l e (rmF 3 40) s m args below meth c H locs 0 0 Q (F0 m 4 ls []) := by
    intro n9
    induction n9 with
    | zero => intro v1 v2 H locs ls h hw hl; rw [f_X7_marked_4.eq_1] at h; exact it_n h
    | succ n9 ih =>
      intro v1 v2 H locs ls h hw hl
      rw [f_X7_marked_4.eq_2] at h
      refine lv_iload_n hx hb dX7_marked_4 rfl (lv_at hl 3 rfl) ?_
      refine lv_aload_n hx hb dX7_marked_5 rfl (lv_at hl 0 rfl) ?_
      obtain ⟨v7, k8, h⟩ := it_b h
      refine kV_i (As := []) (rest := [.int v2]) (q := 0) hx_E hw (c_X7_edges l K ad hI   σ k8) mi_X7_edges mv_X7_edges ml_X7_69 (by decide) rfl rfl rfl ⟨⟨Nat.le_of_ble_eq_true rfl, Nat.le_of_ble_eq_true rfl⟩, rfl, rfl⟩ ⟨Nat.zero_le _, Nat.zero_le _⟩ hl.1 rfl (Nat.le_of_ble_eq_true rfl) dX7_marked_6 (fun H locs hw => ?_)
      refine lv_icmp_ge (tgt := 35) hx hb dX7_marked_9 (by decide) (fun c9 => ?_) (fun c9 => ?_)
      · replace h := it_t c9 h
        have e9 := Option.some.inj h
        subst e9
        exact hJ5 _ rfl  H locs ls hw (lv_sub hl [2] rfl)
      · replace h := it_f c9 h
        refine lv_iload_n hx hb dX7_marked_12 rfl (lv_at hl 2 rfl) ?_
        refine lv_aload_n hx hb dX7_marked_13 rfl (lv_at hl 0 rfl) ?_
        refine lv_iload_n hx hb dX7_marked_14 rfl (lv_at hl 3 rfl) ?_
        obtain ⟨v10, k11, h⟩ := it_b h
        refine kV_i (As := [.int v2]) (rest := [.int v1]) (q := 0) hx_E hw (c_X7_markOf l K ad hI  v2 σ k11) mi_X7_markOf mv_X7_markOf ml_X7_56 (by decide) rfl rfl rfl ⟨⟨Nat.le_of_ble_eq_true rfl, Nat.le_of_ble_eq_true rfl⟩, rfl, rfl⟩ ⟨Nat.zero_le _, Nat.zero_le _⟩ hl.1 rfl (Nat.le_of_ble_eq_true rfl) dX7_marked_15 (fun H locs hw => ?_)
        refine lv_iload_n hx hb dX7_marked_18 rfl (lv_at hl 1 rfl) ?_
        obtain ⟨φ15, h9, h_φ15⟩ := it_b h
        have hJ14 : ∀ (v13 : Int32), v13 = φ15 → (v13 = 0 ∨ v13 = 1) → ∀ (H : Heap) (locs : List Loc) (ls : Array Slot), PW K 12 ad (cM K ad) A s.heap σ H locs → lv_has ls 4 [(0, .ref (ad 0)), (1, .int l1), (3, .int v2)] → W p l e (rmF 3 40) s m args below meth c H locs 0 0 Q (F0 m 27 ls [.int v13, .int v1]) := by
          intro v13 e9 z_v13 H locs ls hw hl
          subst e9
          replace h := h_φ15
          refine lv_iadd hx hb dX7_marked_27 ?_
          obtain ⟨v16, e_v16, h⟩ := it_b h
          refine lt_topi (Option.some.inj e_v16) ?_
          refine lv_istore_n (lv' := [(2, .int v16), (0, .ref (ad 0)), (1, .int l1), (3, .int v2)]) hx hb dX7_marked_28 rfl hl (by decide) rfl (fun ls hl => ?_)
          refine lv_iinc (v := (v2 + 1)) (lv' := [(3, .int (v2 + 1)), (2, .int v16), (0, .ref (ad 0)), (1, .int l1)]) hx hb dX7_marked_29 hl (k := 3) rfl rfl (by decide) rfl (fun ls hl => ?_)
          refine lv_goto (tgt := 4) hx hb dX7_marked_32 (by decide) ?_
          exact ih _ _   H locs ls h hw (lv_sub hl [2, 3, 1, 0] rfl)
        replace h := h9
        refine lv_icmp_ne (tgt := 26) hx hb dX7_marked_19 (by decide) (fun c12 => ?_) (fun c12 => ?_)
        · replace h := it_f c12 h
          refine lv_iconst (v := 0) hx hb dX7_marked_26 (by decide) ?_
          have e9 := Option.some.inj h
          subst e9
          exact hJ14 _ rfl (Or.inl rfl) H locs ls hw (lv_sub hl [0, 1, 3] rfl)
        · replace h := it_t c12 h
          refine lv_iconst (v := 1) hx hb dX7_marked_22 (by decide) ?_
          refine lv_goto (tgt := 27) hx hb dX7_marked_23 (by decide) ?_
          have e9 := Option.some.inj h
          subst e9
          exact hJ14 _ rfl (Or.inr rfl) H locs ls hw (lv_sub hl [0, 1, 3] rfl)
  exact hL4 600 _ _  H locs ls h9 hw (lv_sub hl [2, 3, 1, 0] rfl)
set_option maxHeartbeats 4000000 in
set_option maxRecDepth 100000 in
theorem c_X7_wipe (l : Launch) (K : vK) (ad : Nat → Nat) (hI : adInj 12 ad) (σ : vSt) {r : Int32} {σ' : vSt} (h : f_X7_wipe σ = some (r, σ')) : MCi l yX7_wipe (wsY yX7_wipe cX7_wipe 3 (some .int)) (rmF 4 63) K 12 ad (cM K ad) [.ref (ad 0)] σ r σ' := by
  refine MCi_of (own := RX7) (plainFor_of_name (by decide)) hI rfl (Nat.le_of_ble_eq_true rfl) ?_
  intro p e s m args below meth c A Q hx_E hE H locs ls hw hl
  have hx := hx_E.1; have hb := hx_E.2.1; have hown := hx_E.2.2.2.1; have hts := hx_E.2.2.2.2.1
  replace hl : lv_has ls 3 [(0, .ref (ad 0))] := hl
  unfold f_X7_wipe at h
  refine lv_aload_n hx hb dX7_wipe_0 rfl (lv_at hl 0 rfl) ?_
  obtain ⟨σ1, k2, h⟩ := it_b h
  refine kV_v (As := []) (rest := []) (q := 0) hx_E hw (c_X7_keeps l K ad hI   σ k2) mi_X7_keeps mv_X7_keeps ml_X7_190 (by decide) rfl rfl rfl ⟨⟨Nat.le_of_ble_eq_true rfl, Nat.le_of_ble_eq_true rfl⟩, rfl, rfl⟩ ⟨Nat.zero_le _, Nat.zero_le _⟩ hl.1 rfl (Nat.le_of_ble_eq_true rfl) dX7_wipe_1 (fun H locs hw => ?_)
  refine lv_aload_n hx hb dX7_wipe_4 rfl (lv_at hl 0 rfl) ?_
  obtain ⟨v3, k4, h⟩ := it_b h
  refine kV_i (As := []) (rest := []) (q := 0) hx_E hw (c_X7_edges l K ad hI   σ1 k4) mi_X7_edges mv_X7_edges ml_X7_69 (by decide) rfl rfl rfl ⟨⟨Nat.le_of_ble_eq_true rfl, Nat.le_of_ble_eq_true rfl⟩, rfl, rfl⟩ ⟨Nat.zero_le _, Nat.zero_le _⟩ hl.1 rfl (Nat.le_of_ble_eq_true rfl) dX7_wipe_5 (fun H locs hw => ?_)
  refine lv_aload_n hx hb dX7_wipe_8 rfl (lv_at hl 0 rfl) ?_
  refine lv_iconst (v := 0) hx hb dX7_wipe_9 (by decide) ?_
  obtain ⟨v5, k6, h⟩ := it_b h
  refine kV_i (As := [.int (0 : Int32)]) (rest := [.int v3]) (q := 0) hx_E hw (c_X7_marked l K ad hI  (0 : Int32) σ1 k6) mi_X7_marked mv_X7_marked ml_X7_193 (by decide) rfl rfl rfl ⟨⟨Nat.le_of_ble_eq_true rfl, Nat.le_of_ble_eq_true rfl⟩, rfl, rfl⟩ ⟨Nat.zero_le _, Nat.zero_le _⟩ hl.1 rfl (Nat.le_of_ble_eq_true rfl) dX7_wipe_10 (fun H locs hw => ?_)
  refine lv_isub hx hb dX7_wipe_13 ?_
  obtain ⟨v7, e_v7, h⟩ := it_b h
  refine lt_topi (Option.some.inj e_v7) ?_
  refine lv_istore_n (lv' := [(1, .int v7), (0, .ref (ad 0))]) hx hb dX7_wipe_14 rfl hl (by decide) rfl (fun ls hl => ?_)
  refine lv_bipush (v := 18) hx hb dX7_wipe_15 (by decide) ?_
  refine lv_istore_n (lv' := [(2, .int (18 : Int32)), (1, .int v7), (0, .ref (ad 0))]) hx hb dX7_wipe_17 rfl hl (by decide) rfl (fun ls hl => ?_)
  obtain ⟨φ13, h9, h_φ13⟩ := it_b h
  have hJ12 : ∀ (σ10 : vSt), σ10 = φ13 → ∀ (H : Heap) (locs : List Loc) (ls : Array Slot), PW K 12 ad (cM K ad) A s.heap σ10 H locs → lv_has ls 3 [(1, .int v7)] → W p l e (rmF 4 63) s m args below meth c H locs 0 0 Q (F0 m 37 ls []) := by
    intro σ10 e9 H locs ls hw hl
    subst e9
    replace h := h_φ13
    refine lv_iload_n hx hb dX7_wipe_37 rfl (lv_at hl 0 rfl) ?_
    exact hE hw (congrArg Prod.fst (Option.some.inj h)) (congrArg Prod.snd (Option.some.inj h)) dX7_wipe_38
  have hL11 : ∀ (n9 : Nat) (v8 : Int32) (σ9 : vSt), ∀ (H : Heap) (locs : List Loc) (ls : Array Slot), f_X7_wipe_18  n9 v8 σ9 = some φ13 → PW K 12 ad (cM K ad) A s.heap σ9 H locs → lv_has ls 3 [(0, .ref (ad 0)), (1, .int v7), (2, .int v8)] → W p l e (rmF 4 63) s m args below meth c H locs 0 0 Q (F0 m 18 ls []) := by
    intro n9
    induction n9 with
    | zero => intro v8 σ9 H locs ls h hw hl; rw [f_X7_wipe_18.eq_1] at h; exact it_n h
    | succ n9 ih =>
      intro v8 σ9 H locs ls h hw hl
      rw [f_X7_wipe_18.eq_2] at h
      refine lv_iload_n hx hb dX7_wipe_18 rfl (lv_at hl 2 rfl) ?_
      refine lv_bipush (v := 66) hx hb dX7_wipe_19 (by decide) ?_
      refine lv_icmp_ge (tgt := 37) hx hb dX7_wipe_21 (by decide) (fun c14 => ?_) (fun c14 => ?_)
      · replace h := it_t c14 h
        have e9 := Option.some.inj h
        subst e9
        exact hJ12 _ rfl  H locs ls hw (lv_sub hl [1] rfl)
      · replace h := it_f c14 h
        refine lv_aload_n hx hb dX7_wipe_24 rfl (lv_at hl 0 rfl) ?_
        refine gM_0_0 hx_E hw fl_X7_7 dX7_wipe_25 ?_
        refine lv_iload_n hx hb dX7_wipe_28 rfl (lv_at hl 2 rfl) ?_
        refine lv_iconst (v := 0) hx hb dX7_wipe_29 (by decide) ?_
        obtain ⟨g15, h⟩ := it_g h
        refine sM_1 hx_E hw g15 dX7_wipe_30 (fun H locs hw => ?_)
        refine lv_iinc (v := (v8 + 1)) (lv' := [(2, .int (v8 + 1)), (0, .ref (ad 0)), (1, .int v7)]) hx hb dX7_wipe_31 hl (k := 2) rfl rfl (by decide) rfl (fun ls hl => ?_)
        refine lv_goto (tgt := 18) hx hb dX7_wipe_34 (by decide) ?_
        exact ih _ _  H locs ls h hw (lv_sub hl [1, 2, 0] rfl)
  exact hL11 600 _ _  H locs ls h9 hw (lv_sub hl [2, 1, 0] rfl)
set_option maxHeartbeats 4000000 in
set_option maxRecDepth 100000 in
theorem c_X7_deduce (l : Launch) (K : vK) (ad : Nat → Nat) (hI : adInj 12 ad) (σ : vSt) {r : Int32} {σ' : vSt} (h : f_X7_deduce σ = some (r, σ')) : MCi l yX7_deduce (wsY yX7_deduce cX7_deduce 1 (some .int)) (rmF 11 228) K 12 ad (cM K ad) [.ref (ad 0)] σ r σ' := by
  refine MCi_of (own := RX7) (plainFor_of_name (by decide)) hI rfl (Nat.le_of_ble_eq_true rfl) ?_
  intro p e s m args below meth c A Q hx_E hE H locs ls hw hl
  have hx := hx_E.1; have hb := hx_E.2.1; have hown := hx_E.2.2.2.1; have hts := hx_E.2.2.2.2.1
  replace hl : lv_has ls 1 [(0, .ref (ad 0))] := hl
  unfold f_X7_deduce at h
  refine lv_aload_n hx hb dX7_deduce_0 rfl (lv_at hl 0 rfl) ?_
  obtain ⟨⟨v1, σ2⟩, k3, h⟩ := it_b h
  refine kV_z (As := []) (rest := []) (q := 0) hx_E hw (c_X7_fits l K ad hI   σ k3) mi_X7_fits mv_X7_fits ml_X7_137 (by decide) rfl rfl rfl ⟨⟨Nat.le_of_ble_eq_true rfl, Nat.le_of_ble_eq_true rfl⟩, rfl, rfl⟩ ⟨Nat.zero_le _, Nat.zero_le _⟩ hl.1 rfl (Nat.le_of_ble_eq_true rfl) dX7_deduce_1 (fun z4 H locs hw => ?_)
  refine lv_if_ne (tgt := 10) hx hb dX7_deduce_4 (by decide) (fun c5 => ?_) (fun c5 => ?_)
  · replace h := it_f c5 h
    refine lv_aload_n hx hb dX7_deduce_10 rfl (lv_at hl 0 rfl) ?_
    obtain ⟨σ6, k7, h⟩ := it_b h
    refine kV_v (As := []) (rest := []) (q := 0) hx_E hw (c_X7_keeps l K ad hI   σ2 k7) mi_X7_keeps mv_X7_keeps ml_X7_190 (by decide) rfl rfl rfl ⟨⟨Nat.le_of_ble_eq_true rfl, Nat.le_of_ble_eq_true rfl⟩, rfl, rfl⟩ ⟨Nat.zero_le _, Nat.zero_le _⟩ hl.1 rfl (Nat.le_of_ble_eq_true rfl) dX7_deduce_11 (fun H locs hw => ?_)
    refine lv_aload_n hx hb dX7_deduce_14 rfl (lv_at hl 0 rfl) ?_
    refine lv_bipush (v := 7) hx hb dX7_deduce_15 (by decide) ?_
    obtain ⟨⟨v8, σ9⟩, k10, h⟩ := it_b h
    refine kV_z (As := [.int (7 : Int32)]) (rest := []) (q := 0) hx_E hw (c_X7_findsNext l K ad hI  (7 : Int32) σ6 k10) mi_X7_findsNext mv_X7_findsNext ml_X7_196 (by decide) rfl rfl rfl ⟨⟨Nat.le_of_ble_eq_true rfl, Nat.le_of_ble_eq_true rfl⟩, rfl, rfl⟩ ⟨Nat.zero_le _, Nat.zero_le _⟩ hl.1 rfl (Nat.le_of_ble_eq_true rfl) dX7_deduce_17 (fun z11 H locs hw => ?_)
    refine lv_if_ne (tgt := 25) hx hb dX7_deduce_20 (by decide) (fun c12 => ?_) (fun c12 => ?_)
    · replace h := it_f c12 h
      refine lv_aload_n hx hb dX7_deduce_25 rfl (lv_at hl 0 rfl) ?_
      obtain ⟨σ13, k14, h⟩ := it_b h
      refine kV_v (As := []) (rest := []) (q := 0) hx_E hw (c_X7_makes l K ad hI   σ9 k14) mi_X7_makes mv_X7_makes ml_X7_152 (by decide) rfl rfl rfl ⟨⟨Nat.le_of_ble_eq_true rfl, Nat.le_of_ble_eq_true rfl⟩, rfl, rfl⟩ ⟨Nat.zero_le _, Nat.zero_le _⟩ hl.1 rfl (Nat.le_of_ble_eq_true rfl) dX7_deduce_26 (fun H locs hw => ?_)
      refine lv_aload_n hx hb dX7_deduce_29 rfl (lv_at hl 0 rfl) ?_
      refine gM_0_0 hx_E hw fl_X7_7 dX7_deduce_30 ?_
      refine lv_bipush (v := 58) hx hb dX7_deduce_33 (by decide) ?_
      refine lv_aload_n hx hb dX7_deduce_35 rfl (lv_at hl 0 rfl) ?_
      refine gM_0_13 hx_E hw fl_X7_115 dX7_deduce_36 ?_
      refine lv_iadd hx hb dX7_deduce_39 ?_
      refine lv_dup2_11 hx hb dX7_deduce_40 rfl rfl ?_
      obtain ⟨g15, h⟩ := it_g h
      refine aM_1 hx_E hw g15 dX7_deduce_41 ?_
      refine lv_iconst (v := 1) hx hb dX7_deduce_42 (by decide) ?_
      refine lv_iadd hx hb dX7_deduce_43 ?_
      obtain ⟨g16, h⟩ := it_g h
      refine sM_1 hx_E hw g16 dX7_deduce_44 (fun H locs hw => ?_)
      refine lv_aload_n hx hb dX7_deduce_45 rfl (lv_at hl 0 rfl) ?_
      refine gM_0_13 hx_E hw fl_X7_115 dX7_deduce_46 ?_
      exact hE hw (congrArg Prod.fst (Option.some.inj h)) (congrArg Prod.snd (Option.some.inj h)) dX7_deduce_49
    · replace h := it_t c12 h
      refine lv_iconst (v := -1) hx hb dX7_deduce_23 (by decide) ?_
      exact hE hw (congrArg Prod.fst (Option.some.inj h)) (congrArg Prod.snd (Option.some.inj h)) dX7_deduce_24
  · replace h := it_t c5 h
    refine lv_bipush (v := -3) hx hb dX7_deduce_7 (by decide) ?_
    exact hE hw (congrArg Prod.fst (Option.some.inj h)) (congrArg Prod.snd (Option.some.inj h)) dX7_deduce_9
set_option maxHeartbeats 4000000 in
set_option maxRecDepth 100000 in
theorem c_X7_deduceAll (l : Launch) (K : vK) (ad : Nat → Nat) (hI : adInj 12 ad) (l1 : Int32) (σ : vSt) {r : Int32} {σ' : vSt} (h : f_X7_deduceAll l1 σ = some (r, σ')) : MCi l yX7_deduceAll (wsY yX7_deduceAll cX7_deduceAll 3 (some .int)) (rmF 11 228) K 12 ad (cM K ad) [.ref (ad 0), .int l1] σ r σ' := by
  refine MCi_of (own := RX7) (plainFor_of_name (by decide)) hI rfl (Nat.le_of_ble_eq_true rfl) ?_
  intro p e s m args below meth c A Q hx_E hE H locs ls hw hl
  have hx := hx_E.1; have hb := hx_E.2.1; have hown := hx_E.2.2.2.1; have hts := hx_E.2.2.2.2.1
  replace hl : lv_has ls 3 [(0, .ref (ad 0)), (1, .int l1)] := hl
  unfold f_X7_deduceAll at h
  refine lv_iload_n hx hb dX7_deduceAll_0 rfl (lv_at hl 1 rfl) ?_
  refine lv_iconst (v := 0) hx hb dX7_deduceAll_1 (by decide) ?_
  refine lv_bipush (v := 7) hx hb dX7_deduceAll_2 (by decide) ?_
  obtain ⟨v1, k2, h⟩ := it_b h
  refine kS_z (As := [.int l1, .int (0 : Int32), .int (7 : Int32)]) (rest := []) hx_E hw (c_X7_in l K l1 (0 : Int32) (7 : Int32) k2) mi_X7_in sm_X7_in ml_X7_162 rfl ⟨⟨Nat.le_of_ble_eq_true rfl, Nat.le_of_ble_eq_true rfl⟩, rfl, rfl⟩ ⟨Nat.zero_le _, Nat.zero_le _⟩ hl.1 rfl (Nat.le_of_ble_eq_true rfl) dX7_deduceAll_4 (fun z3 H locs hw => ?_)
  refine lv_if_ne (tgt := 13) hx hb dX7_deduceAll_7 (by decide) (fun c4 => ?_) (fun c4 => ?_)
  · replace h := it_f c4 h
    refine lv_aload_n hx hb dX7_deduceAll_13 rfl (lv_at hl 0 rfl) ?_
    obtain ⟨⟨v5, σ6⟩, k7, h⟩ := it_b h
    refine kV_z (As := []) (rest := []) (q := 0) hx_E hw (c_X7_fits l K ad hI   σ k7) mi_X7_fits mv_X7_fits ml_X7_137 (by decide) rfl rfl rfl ⟨⟨Nat.le_of_ble_eq_true rfl, Nat.le_of_ble_eq_true rfl⟩, rfl, rfl⟩ ⟨Nat.zero_le _, Nat.zero_le _⟩ hl.1 rfl (Nat.le_of_ble_eq_true rfl) dX7_deduceAll_14 (fun z8 H locs hw => ?_)
    refine lv_if_ne (tgt := 23) hx hb dX7_deduceAll_17 (by decide) (fun c9 => ?_) (fun c9 => ?_)
    · replace h := it_f c9 h
      refine lv_aload_n hx hb dX7_deduceAll_23 rfl (lv_at hl 0 rfl) ?_
      obtain ⟨σ10, k11, h⟩ := it_b h
      refine kV_v (As := []) (rest := []) (q := 0) hx_E hw (c_X7_keeps l K ad hI   σ6 k11) mi_X7_keeps mv_X7_keeps ml_X7_190 (by decide) rfl rfl rfl ⟨⟨Nat.le_of_ble_eq_true rfl, Nat.le_of_ble_eq_true rfl⟩, rfl, rfl⟩ ⟨Nat.zero_le _, Nat.zero_le _⟩ hl.1 rfl (Nat.le_of_ble_eq_true rfl) dX7_deduceAll_24 (fun H locs hw => ?_)
      refine lv_iconst (v := 0) hx hb dX7_deduceAll_27 (by decide) ?_
      refine lv_istore_n (lv' := [(2, .int (0 : Int32)), (0, .ref (ad 0)), (1, .int l1)]) hx hb dX7_deduceAll_28 rfl hl (by decide) rfl (fun ls hl => ?_)
      obtain ⟨φ18, h9, h_φ18⟩ := it_b h
      have hJ17 : ∀ (v14 : Int32) (σ15 : vSt), (v14, σ15) = φ18 → ∀ (H : Heap) (locs : List Loc) (ls : Array Slot), PW K 12 ad (cM K ad) A s.heap σ15 H locs → lv_has ls 3 [(2, .int v14)] → W p l e (rmF 11 228) s m args below meth c H locs 0 0 Q (F0 m 63 ls []) := by
        intro v14 σ15 e9 H locs ls hw hl
        subst e9
        replace h := h_φ18
        refine lv_iload_n hx hb dX7_deduceAll_63 rfl (lv_at hl 0 rfl) ?_
        exact hE hw (congrArg Prod.fst (Option.some.inj h)) (congrArg Prod.snd (Option.some.inj h)) dX7_deduceAll_64
      have hL16 : ∀ (n9 : Nat) (v12 : Int32) (σ13 : vSt), ∀ (H : Heap) (locs : List Loc) (ls : Array Slot), f_X7_deduceAll_29 l1 n9 v12 σ13 = some φ18 → PW K 12 ad (cM K ad) A s.heap σ13 H locs → lv_has ls 3 [(0, .ref (ad 0)), (1, .int l1), (2, .int v12)] → W p l e (rmF 11 228) s m args below meth c H locs 0 0 Q (F0 m 29 ls []) := by
        intro n9
        induction n9 with
        | zero => intro v12 σ13 H locs ls h hw hl; rw [f_X7_deduceAll_29.eq_1] at h; exact it_n h
        | succ n9 ih =>
          intro v12 σ13 H locs ls h hw hl
          rw [f_X7_deduceAll_29.eq_2] at h
          refine lv_aload_n hx hb dX7_deduceAll_29 rfl (lv_at hl 0 rfl) ?_
          refine lv_iload_n hx hb dX7_deduceAll_30 rfl (lv_at hl 1 rfl) ?_
          obtain ⟨⟨v19, σ20⟩, k21, h⟩ := it_b h
          refine kV_z (As := [.int l1]) (rest := []) (q := 0) hx_E hw (c_X7_findsNext l K ad hI  l1 σ13 k21) mi_X7_findsNext mv_X7_findsNext ml_X7_196 (by decide) rfl rfl rfl ⟨⟨Nat.le_of_ble_eq_true rfl, Nat.le_of_ble_eq_true rfl⟩, rfl, rfl⟩ ⟨Nat.zero_le _, Nat.zero_le _⟩ hl.1 rfl (Nat.le_of_ble_eq_true rfl) dX7_deduceAll_31 (fun z22 H locs hw => ?_)
          refine lv_if_eq (tgt := 63) hx hb dX7_deduceAll_34 (by decide) (fun c23 => ?_) (fun c23 => ?_)
          · replace h := it_t c23 h
            have e9 := Option.some.inj h
            subst e9
            exact hJ17 _ _ rfl  H locs ls hw (lv_sub hl [2] rfl)
          · replace h := it_f c23 h
            refine lv_aload_n hx hb dX7_deduceAll_37 rfl (lv_at hl 0 rfl) ?_
            obtain ⟨σ24, k25, h⟩ := it_b h
            refine kV_v (As := []) (rest := []) (q := 0) hx_E hw (c_X7_makes l K ad hI   σ20 k25) mi_X7_makes mv_X7_makes ml_X7_152 (by decide) rfl rfl rfl ⟨⟨Nat.le_of_ble_eq_true rfl, Nat.le_of_ble_eq_true rfl⟩, rfl, rfl⟩ ⟨Nat.zero_le _, Nat.zero_le _⟩ hl.1 rfl (Nat.le_of_ble_eq_true rfl) dX7_deduceAll_38 (fun H locs hw => ?_)
            refine lv_aload_n hx hb dX7_deduceAll_41 rfl (lv_at hl 0 rfl) ?_
            refine gM_0_0 hx_E hw fl_X7_7 dX7_deduceAll_42 ?_
            refine lv_bipush (v := 58) hx hb dX7_deduceAll_45 (by decide) ?_
            refine lv_aload_n hx hb dX7_deduceAll_47 rfl (lv_at hl 0 rfl) ?_
            refine gM_0_13 hx_E hw fl_X7_115 dX7_deduceAll_48 ?_
            refine lv_iadd hx hb dX7_deduceAll_51 ?_
            refine lv_dup2_11 hx hb dX7_deduceAll_52 rfl rfl ?_
            obtain ⟨g26, h⟩ := it_g h
            refine aM_1 hx_E hw g26 dX7_deduceAll_53 ?_
            refine lv_iconst (v := 1) hx hb dX7_deduceAll_54 (by decide) ?_
            refine lv_iadd hx hb dX7_deduceAll_55 ?_
            obtain ⟨g27, h⟩ := it_g h
            refine sM_1 hx_E hw g27 dX7_deduceAll_56 (fun H locs hw => ?_)
            refine lv_iinc (v := (v12 + 1)) (lv' := [(2, .int (v12 + 1)), (0, .ref (ad 0)), (1, .int l1)]) hx hb dX7_deduceAll_57 hl (k := 2) rfl rfl (by decide) rfl (fun ls hl => ?_)
            refine lv_goto (tgt := 29) hx hb dX7_deduceAll_60 (by decide) ?_
            exact ih _ _  H locs ls h hw (lv_sub hl [1, 2, 0] rfl)
      exact hL16 600 _ _  H locs ls h9 hw (lv_sub hl [1, 2, 0] rfl)
    · replace h := it_t c9 h
      refine lv_bipush (v := -3) hx hb dX7_deduceAll_20 (by decide) ?_
      exact hE hw (congrArg Prod.fst (Option.some.inj h)) (congrArg Prod.snd (Option.some.inj h)) dX7_deduceAll_22
  · replace h := it_t c4 h
    refine lv_bipush (v := -2) hx hb dX7_deduceAll_10 (by decide) ?_
    exact hE hw (congrArg Prod.fst (Option.some.inj h)) (congrArg Prod.snd (Option.some.inj h)) dX7_deduceAll_12
set_option maxHeartbeats 4000000 in
set_option maxRecDepth 100000 in
theorem c_X7_countOf (l : Launch) (K : vK) (ad : Nat → Nat) (hI : adInj 12 ad) (l1 : Int32) (σ : vSt) {r : Int32} (h : f_X7_countOf l1 σ = some r) : MCi l yX7_countOf (wsY yX7_countOf cX7_countOf 2 (some .int)) (rmF 2 22) K 12 ad (cM K ad) [.ref (ad 0), .int l1] σ r σ := by
  refine MCi_of (own := RX7) (plainFor_of_name (by decide)) hI rfl (Nat.le_of_ble_eq_true rfl) ?_
  intro p e s m args below meth c A Q hx_E hE H locs ls hw hl
  have hx := hx_E.1; have hb := hx_E.2.1; have hown := hx_E.2.2.2.1; have hts := hx_E.2.2.2.2.1
  replace hl : lv_has ls 2 [(0, .ref (ad 0)), (1, .int l1)] := hl
  unfold f_X7_countOf at h
  refine lv_iload_n hx hb dX7_countOf_0 rfl (lv_at hl 1 rfl) ?_
  refine lv_iconst (v := 0) hx hb dX7_countOf_1 (by decide) ?_
  refine lv_aload_n hx hb dX7_countOf_2 rfl (lv_at hl 0 rfl) ?_
  obtain ⟨v1, k2, h⟩ := it_b h
  refine kV_i (As := []) (rest := [.int (0 : Int32), .int l1]) (q := 0) hx_E hw (c_X7_cells l K ad hI   σ k2) mi_X7_cells mv_X7_cells ml_X7_82 (by decide) rfl rfl rfl ⟨⟨Nat.le_of_ble_eq_true rfl, Nat.le_of_ble_eq_true rfl⟩, rfl, rfl⟩ ⟨Nat.zero_le _, Nat.zero_le _⟩ hl.1 rfl (Nat.le_of_ble_eq_true rfl) dX7_countOf_3 (fun H locs hw => ?_)
  refine lv_iconst (v := 1) hx hb dX7_countOf_6 (by decide) ?_
  refine lv_isub hx hb dX7_countOf_7 ?_
  obtain ⟨v3, k4, h⟩ := it_b h
  refine kS_z (As := [.int l1, .int (0 : Int32), .int (v1 - (1 : Int32))]) (rest := []) hx_E hw (c_X7_in l K l1 (0 : Int32) (v1 - (1 : Int32)) k4) mi_X7_in sm_X7_in ml_X7_162 rfl ⟨⟨Nat.le_of_ble_eq_true rfl, Nat.le_of_ble_eq_true rfl⟩, rfl, rfl⟩ ⟨Nat.zero_le _, Nat.zero_le _⟩ hl.1 rfl (Nat.le_of_ble_eq_true rfl) dX7_countOf_8 (fun z5 H locs hw => ?_)
  refine lv_if_eq (tgt := 25) hx hb dX7_countOf_11 (by decide) (fun c6 => ?_) (fun c6 => ?_)
  · replace h := it_t c6 h
    refine lv_bipush (v := -2) hx hb dX7_countOf_25 (by decide) ?_
    exact hE hw (Option.some.inj h) rfl dX7_countOf_27
  · replace h := it_f c6 h
    refine lv_aload_n hx hb dX7_countOf_14 rfl (lv_at hl 0 rfl) ?_
    refine gM_0_0 hx_E hw fl_X7_7 dX7_countOf_15 ?_
    refine lv_iconst (v := 2) hx hb dX7_countOf_18 (by decide) ?_
    refine lv_iload_n hx hb dX7_countOf_19 rfl (lv_at hl 1 rfl) ?_
    refine lv_iadd hx hb dX7_countOf_20 ?_
    obtain ⟨g7, h⟩ := it_g h
    refine aM_1 hx_E hw g7 dX7_countOf_21 ?_
    refine lv_goto (tgt := 27) hx hb dX7_countOf_22 (by decide) ?_
    exact hE hw (Option.some.inj h) rfl dX7_countOf_27
set_option maxHeartbeats 4000000 in
set_option maxRecDepth 100000 in
theorem c_X7_edge (l : Launch) (K : vK) (ad : Nat → Nat) (hI : adInj 12 ad) (l1 : Int32) (σ : vSt) {r : Int32} (h : f_X7_edge l1 σ = some r) : MCi l yX7_edge (wsY yX7_edge cX7_edge 2 (some .int)) (rmF 3 40) K 12 ad (cM K ad) [.ref (ad 0), .int l1] σ r σ := by
  refine MCi_of (own := RX7) (plainFor_of_name (by decide)) hI rfl (Nat.le_of_ble_eq_true rfl) ?_
  intro p e s m args below meth c A Q hx_E hE H locs ls hw hl
  have hx := hx_E.1; have hb := hx_E.2.1; have hown := hx_E.2.2.2.1; have hts := hx_E.2.2.2.2.1
  replace hl : lv_has ls 2 [(0, .ref (ad 0)), (1, .int l1)] := hl
  unfold f_X7_edge at h
  refine lv_iload_n hx hb dX7_edge_0 rfl (lv_at hl 1 rfl) ?_
  refine lv_iconst (v := 0) hx hb dX7_edge_1 (by decide) ?_
  refine lv_aload_n hx hb dX7_edge_2 rfl (lv_at hl 0 rfl) ?_
  obtain ⟨v1, k2, h⟩ := it_b h
  refine kV_i (As := []) (rest := [.int (0 : Int32), .int l1]) (q := 0) hx_E hw (c_X7_edges l K ad hI   σ k2) mi_X7_edges mv_X7_edges ml_X7_69 (by decide) rfl rfl rfl ⟨⟨Nat.le_of_ble_eq_true rfl, Nat.le_of_ble_eq_true rfl⟩, rfl, rfl⟩ ⟨Nat.zero_le _, Nat.zero_le _⟩ hl.1 rfl (Nat.le_of_ble_eq_true rfl) dX7_edge_3 (fun H locs hw => ?_)
  refine lv_iconst (v := 1) hx hb dX7_edge_6 (by decide) ?_
  refine lv_isub hx hb dX7_edge_7 ?_
  obtain ⟨v3, k4, h⟩ := it_b h
  refine kS_z (As := [.int l1, .int (0 : Int32), .int (v1 - (1 : Int32))]) (rest := []) hx_E hw (c_X7_in l K l1 (0 : Int32) (v1 - (1 : Int32)) k4) mi_X7_in sm_X7_in ml_X7_162 rfl ⟨⟨Nat.le_of_ble_eq_true rfl, Nat.le_of_ble_eq_true rfl⟩, rfl, rfl⟩ ⟨Nat.zero_le _, Nat.zero_le _⟩ hl.1 rfl (Nat.le_of_ble_eq_true rfl) dX7_edge_8 (fun z5 H locs hw => ?_)
  refine lv_if_eq (tgt := 22) hx hb dX7_edge_11 (by decide) (fun c6 => ?_) (fun c6 => ?_)
  · replace h := it_t c6 h
    refine lv_bipush (v := -2) hx hb dX7_edge_22 (by decide) ?_
    exact hE hw (Option.some.inj h) rfl dX7_edge_24
  · replace h := it_f c6 h
    refine lv_aload_n hx hb dX7_edge_14 rfl (lv_at hl 0 rfl) ?_
    refine lv_iload_n hx hb dX7_edge_15 rfl (lv_at hl 1 rfl) ?_
    obtain ⟨v7, k8, h⟩ := it_b h
    refine kV_i (As := [.int l1]) (rest := []) (q := 0) hx_E hw (c_X7_markOf l K ad hI  l1 σ k8) mi_X7_markOf mv_X7_markOf ml_X7_56 (by decide) rfl rfl rfl ⟨⟨Nat.le_of_ble_eq_true rfl, Nat.le_of_ble_eq_true rfl⟩, rfl, rfl⟩ ⟨Nat.zero_le _, Nat.zero_le _⟩ hl.1 rfl (Nat.le_of_ble_eq_true rfl) dX7_edge_16 (fun H locs hw => ?_)
    refine lv_goto (tgt := 24) hx hb dX7_edge_19 (by decide) ?_
    exact hE hw (Option.some.inj h) rfl dX7_edge_24
set_option maxHeartbeats 4000000 in
set_option maxRecDepth 100000 in
theorem c_X7_edgeAt (l : Launch) (K : vK) (ad : Nat → Nat) (hI : adInj 12 ad) (l1 : Int32) (l2 : Int32) (l3 : Int32) (σ : vSt) {r : Int32} (h : f_X7_edgeAt l1 l2 l3 σ = some r) : MCi l yX7_edgeAt (wsY yX7_edgeAt cX7_edgeAt 6 (some .int)) (rmF 3 44) K 12 ad (cM K ad) [.ref (ad 0), .int l1, .int l2, .int l3] σ r σ := by
  refine MCi_of (own := RX7) (plainFor_of_name (by decide)) hI rfl (Nat.le_of_ble_eq_true rfl) ?_
  intro p e s m args below meth c A Q hx_E hE H locs ls hw hl
  have hx := hx_E.1; have hb := hx_E.2.1; have hown := hx_E.2.2.2.1; have hts := hx_E.2.2.2.2.1
  replace hl : lv_has ls 6 [(0, .ref (ad 0)), (1, .int l1), (2, .int l2), (3, .int l3)] := hl
  unfold f_X7_edgeAt at h
  refine lv_iload_n hx hb dX7_edgeAt_0 rfl (lv_at hl 2 rfl) ?_
  refine lv_iconst (v := 0) hx hb dX7_edgeAt_1 (by decide) ?_
  refine lv_iload_n hx hb dX7_edgeAt_2 rfl (lv_at hl 1 rfl) ?_
  obtain ⟨φ4, h9, h_φ4⟩ := it_b h
  have hJ3 : ∀ (v2 : Int32), v2 = φ4 → ∀ (H : Heap) (locs : List Loc) (ls : Array Slot), PW K 12 ad (cM K ad) A s.heap σ H locs → lv_has ls 6 [(0, .ref (ad 0)), (1, .int l1), (2, .int l2), (3, .int l3)] → W p l e (rmF 3 44) s m args below meth c H locs 0 0 Q (F0 m 17 ls [.int v2, .int (0 : Int32), .int l2]) := by
    intro v2 e9 H locs ls hw hl
    subst e9
    replace h := h_φ4
    refine lv_iconst (v := 1) hx hb dX7_edgeAt_17 (by decide) ?_
    refine lv_isub hx hb dX7_edgeAt_18 ?_
    obtain ⟨v9, k10, h⟩ := it_b h
    refine kS_z (As := [.int l2, .int (0 : Int32), .int (v2 - (1 : Int32))]) (rest := []) hx_E hw (c_X7_in l K l2 (0 : Int32) (v2 - (1 : Int32)) k10) mi_X7_in sm_X7_in ml_X7_162 rfl ⟨⟨Nat.le_of_ble_eq_true rfl, Nat.le_of_ble_eq_true rfl⟩, rfl, rfl⟩ ⟨Nat.zero_le _, Nat.zero_le _⟩ hl.1 rfl (Nat.le_of_ble_eq_true rfl) dX7_edgeAt_19 (fun z11 H locs hw => ?_)
    refine lv_if_eq (tgt := 29) hx hb dX7_edgeAt_22 (by decide) (fun c12 => ?_) (fun c12 => ?_)
    · replace h := it_t c12 h
      refine lv_bipush (v := -2) hx hb dX7_edgeAt_29 (by decide) ?_
      exact hE hw (Option.some.inj h) rfl dX7_edgeAt_31
    · replace h := it_f c12 h
      refine lv_iload_n hx hb dX7_edgeAt_25 rfl (lv_at hl 3 rfl) ?_
      refine lv_if_ge (tgt := 32) hx hb dX7_edgeAt_26 (by decide) (fun c13 => ?_) (fun c13 => ?_)
      · replace h := it_t c13 h
        refine lv_iload_n hx hb dX7_edgeAt_32 rfl (lv_at hl 1 rfl) ?_
        refine lv_if_ne (tgt := 52) hx hb dX7_edgeAt_33 (by decide) (fun c14 => ?_) (fun c14 => ?_)
        · replace h := it_f c14 h
          refine lv_iconst (v := 0) hx hb dX7_edgeAt_52 (by decide) ?_
          refine lv_istore (lv' := [(4, .int (0 : Int32)), (0, .ref (ad 0)), (1, .int l1), (2, .int l2), (3, .int l3)]) hx hb dX7_edgeAt_53 hl (by decide) rfl (fun ls hl => ?_)
          refine lv_iconst (v := 0) hx hb dX7_edgeAt_55 (by decide) ?_
          refine lv_istore (lv' := [(5, .int (0 : Int32)), (4, .int (0 : Int32)), (0, .ref (ad 0)), (1, .int l1), (2, .int l2), (3, .int l3)]) hx hb dX7_edgeAt_56 hl (by decide) rfl (fun ls hl => ?_)
          obtain ⟨φ19, h9, h_φ19⟩ := it_b h
          have hJ18 : ∀ (_u : Unit), .inr () = φ19 → ∀ (H : Heap) (locs : List Loc) (ls : Array Slot), PW K 12 ad (cM K ad) A s.heap σ H locs → lv_has ls 6 [] → W p l e (rmF 3 44) s m args below meth c H locs 0 0 Q (F0 m 98 ls []) := by
            intro _u e9 H locs ls hw hl
            subst e9
            replace h := h_φ19
            refine lv_iconst (v := -1) hx hb dX7_edgeAt_98 (by decide) ?_
            exact hE hw (Option.some.inj h) rfl dX7_edgeAt_99
          have hL17 : ∀ (n9 : Nat) (v15 : Int32) (v16 : Int32), ∀ (H : Heap) (locs : List Loc) (ls : Array Slot), f_X7_edgeAt_58 l2 l3 σ n9 v15 v16 = some φ19 → PW K 12 ad (cM K ad) A s.heap σ H locs → lv_has ls 6 [(0, .ref (ad 0)), (2, .int l2), (3, .int l3), (4, .int v15), (5, .int v16)] → W p l e (rmF 3 44) s m args below meth c H locs 0 0 Q (F0 m 58 ls []) := by
            intro n9
            induction n9 with
            | zero => intro v15 v16 H locs ls h hw hl; rw [f_X7_edgeAt_58.eq_1] at h; exact it_n h
            | succ n9 ih =>
              intro v15 v16 H locs ls h hw hl
              rw [f_X7_edgeAt_58.eq_2] at h
              refine lv_iload hx hb dX7_edgeAt_58 (lv_at hl 4 rfl) ?_
              refine lv_iconst (v := 4) hx hb dX7_edgeAt_60 (by decide) ?_
              refine lv_icmp_ge (tgt := 98) hx hb dX7_edgeAt_61 (by decide) (fun c20 => ?_) (fun c20 => ?_)
              · replace h := it_t c20 h
                have e9 := Option.some.inj h
                subst e9
                exact hJ18 () rfl  H locs ls hw (lv_sub hl [] rfl)
              · replace h := it_f c20 h
                refine lv_aload_n hx hb dX7_edgeAt_64 rfl (lv_at hl 0 rfl) ?_
                refine lv_iload_n hx hb dX7_edgeAt_65 rfl (lv_at hl 1 rfl) ?_
                refine lv_iload hx hb dX7_edgeAt_66 (lv_at hl 4 rfl) ?_
                obtain ⟨v21, k22, h⟩ := it_b h
                refine kV_i (As := [.int l2, .int v16]) (rest := []) (q := 0) hx_E hw (c_X7_toward l K ad hI  l2 v16 σ k22) mi_X7_toward mv_X7_toward ml_X7_60 (by decide) rfl rfl rfl ⟨⟨Nat.le_of_ble_eq_true rfl, Nat.le_of_ble_eq_true rfl⟩, rfl, rfl⟩ ⟨Nat.zero_le _, Nat.zero_le _⟩ hl.1 rfl (Nat.le_of_ble_eq_true rfl) dX7_edgeAt_68 (fun H locs hw => ?_)
                refine lv_iconst (v := -1) hx hb dX7_edgeAt_71 (by decide) ?_
                refine lv_icmp_eq (tgt := 92) hx hb dX7_edgeAt_72 (by decide) (fun c23 => ?_) (fun c23 => ?_)
                · replace h := it_t c23 h
                  refine lv_iinc (v := (v16 + 1)) (lv' := [(5, .int (v16 + 1)), (0, .ref (ad 0)), (2, .int l2), (3, .int l3), (4, .int v15)]) hx hb dX7_edgeAt_92 hl (k := 4) rfl rfl (by decide) rfl (fun ls hl => ?_)
                  refine lv_goto (tgt := 58) hx hb dX7_edgeAt_95 (by decide) ?_
                  exact ih _ _   H locs ls h hw (lv_sub hl [1, 2, 3, 4, 0] rfl)
                · replace h := it_f c23 h
                  refine lv_iload hx hb dX7_edgeAt_75 (lv_at hl 3 rfl) ?_
                  refine lv_iload_n hx hb dX7_edgeAt_77 rfl (lv_at hl 2 rfl) ?_
                  refine lv_icmp_ne (tgt := 89) hx hb dX7_edgeAt_78 (by decide) (fun c24 => ?_) (fun c24 => ?_)
                  · replace h := it_f c24 h
                    refine lv_iinc (v := (v15 + 1)) (lv' := [(4, .int (v15 + 1)), (0, .ref (ad 0)), (2, .int l2), (3, .int l3), (5, .int v16)]) hx hb dX7_edgeAt_89 hl (k := 3) rfl rfl (by decide) rfl (fun ls hl => ?_)
                    refine lv_iinc (v := (v16 + 1)) (lv' := [(5, .int (v16 + 1)), (4, .int (v15 + 1)), (0, .ref (ad 0)), (2, .int l2), (3, .int l3)]) hx hb dX7_edgeAt_92 hl (k := 4) rfl rfl (by decide) rfl (fun ls hl => ?_)
                    refine lv_goto (tgt := 58) hx hb dX7_edgeAt_95 (by decide) ?_
                    exact ih _ _   H locs ls h hw (lv_sub hl [2, 3, 4, 1, 0] rfl)
                  · replace h := it_t c24 h
                    refine lv_aload_n hx hb dX7_edgeAt_81 rfl (lv_at hl 0 rfl) ?_
                    refine lv_iload_n hx hb dX7_edgeAt_82 rfl (lv_at hl 1 rfl) ?_
                    refine lv_iload hx hb dX7_edgeAt_83 (lv_at hl 4 rfl) ?_
                    obtain ⟨v25, k26, h⟩ := it_b h
                    refine kV_i (As := [.int l2, .int v16]) (rest := []) (q := 0) hx_E hw (c_X7_toward l K ad hI  l2 v16 σ k26) mi_X7_toward mv_X7_toward ml_X7_60 (by decide) rfl rfl rfl ⟨⟨Nat.le_of_ble_eq_true rfl, Nat.le_of_ble_eq_true rfl⟩, rfl, rfl⟩ ⟨Nat.zero_le _, Nat.zero_le _⟩ hl.1 rfl (Nat.le_of_ble_eq_true rfl) dX7_edgeAt_85 (fun H locs hw => ?_)
                    have e9 := Option.some.inj h
                    subst e9
                    replace h := h_φ19
                    exact hE hw (Option.some.inj h) rfl dX7_edgeAt_88
          exact hL17 600 _ _  H locs ls h9 hw (lv_sub hl [2, 4, 5, 1, 0] rfl)
        · replace h := it_t c14 h
          refine lv_iload_n hx hb dX7_edgeAt_36 rfl (lv_at hl 3 rfl) ?_
          refine lv_iconst (v := 4) hx hb dX7_edgeAt_37 (by decide) ?_
          refine lv_icmp_ge (tgt := 50) hx hb dX7_edgeAt_38 (by decide) (fun c27 => ?_) (fun c27 => ?_)
          · replace h := it_t c27 h
            refine lv_iconst (v := -1) hx hb dX7_edgeAt_50 (by decide) ?_
            exact hE hw (Option.some.inj h) rfl dX7_edgeAt_51
          · replace h := it_f c27 h
            refine lv_aload_n hx hb dX7_edgeAt_41 rfl (lv_at hl 0 rfl) ?_
            refine lv_iload_n hx hb dX7_edgeAt_42 rfl (lv_at hl 2 rfl) ?_
            refine lv_iload_n hx hb dX7_edgeAt_43 rfl (lv_at hl 3 rfl) ?_
            obtain ⟨v28, k29, h⟩ := it_b h
            refine kV_i (As := [.int l2, .int l3]) (rest := []) (q := 0) hx_E hw (c_X7_aroundCell l K ad hI  l2 l3 σ k29) mi_X7_aroundCell mv_X7_aroundCell ml_X7_52 (by decide) rfl rfl rfl ⟨⟨Nat.le_of_ble_eq_true rfl, Nat.le_of_ble_eq_true rfl⟩, rfl, rfl⟩ ⟨Nat.zero_le _, Nat.zero_le _⟩ hl.1 rfl (Nat.le_of_ble_eq_true rfl) dX7_edgeAt_44 (fun H locs hw => ?_)
            refine lv_goto (tgt := 51) hx hb dX7_edgeAt_47 (by decide) ?_
            exact hE hw (Option.some.inj h) rfl dX7_edgeAt_51
      · replace h := it_f c13 h
        refine lv_bipush (v := -2) hx hb dX7_edgeAt_29 (by decide) ?_
        exact hE hw (Option.some.inj h) rfl dX7_edgeAt_31
  replace h := h9
  refine lv_if_eq (tgt := 13) hx hb dX7_edgeAt_3 (by decide) (fun c1 => ?_) (fun c1 => ?_)
  · replace h := it_t c1 h
    refine lv_aload_n hx hb dX7_edgeAt_13 rfl (lv_at hl 0 rfl) ?_
    obtain ⟨v5, k6, h⟩ := it_b h
    refine kV_i (As := []) (rest := [.int (0 : Int32), .int l2]) (q := 0) hx_E hw (c_X7_cells l K ad hI   σ k6) mi_X7_cells mv_X7_cells ml_X7_82 (by decide) rfl rfl rfl ⟨⟨Nat.le_of_ble_eq_true rfl, Nat.le_of_ble_eq_true rfl⟩, rfl, rfl⟩ ⟨Nat.zero_le _, Nat.zero_le _⟩ hl.1 rfl (Nat.le_of_ble_eq_true rfl) dX7_edgeAt_14 (fun H locs hw => ?_)
    have e9 := Option.some.inj h
    subst e9
    exact hJ3 _ rfl  H locs ls hw (lv_sub hl [0, 1, 2, 3] rfl)
  · replace h := it_f c1 h
    refine lv_aload_n hx hb dX7_edgeAt_6 rfl (lv_at hl 0 rfl) ?_
    obtain ⟨v7, k8, h⟩ := it_b h
    refine kV_i (As := []) (rest := [.int (0 : Int32), .int l2]) (q := 0) hx_E hw (c_X7_corners l K ad hI   σ k8) mi_X7_corners mv_X7_corners ml_X7_63 (by decide) rfl rfl rfl ⟨⟨Nat.le_of_ble_eq_true rfl, Nat.le_of_ble_eq_true rfl⟩, rfl, rfl⟩ ⟨Nat.zero_le _, Nat.zero_le _⟩ hl.1 rfl (Nat.le_of_ble_eq_true rfl) dX7_edgeAt_7 (fun H locs hw => ?_)
    refine lv_goto (tgt := 17) hx hb dX7_edgeAt_10 (by decide) ?_
    have e9 := Option.some.inj h
    subst e9
    exact hJ3 _ rfl  H locs ls hw (lv_sub hl [0, 1, 2, 3] rfl)
set_option maxHeartbeats 4000000 in
set_option maxRecDepth 100000 in
theorem c_X7_misfit (l : Launch) (K : vK) (ad : Nat → Nat) (hI : adInj 12 ad) (l1 : Int32) (σ : vSt) {r : Int32} {σ' : vSt} (h : f_X7_misfit l1 σ = some (r, σ')) : MCi l yX7_misfit (wsY yX7_misfit cX7_misfit 3 (some .int)) (rmF 7 137) K 12 ad (cM K ad) [.ref (ad 0), .int l1] σ r σ' := by
  refine MCi_of (own := RX7) (plainFor_of_name (by decide)) hI rfl (Nat.le_of_ble_eq_true rfl) ?_
  intro p e s m args below meth c A Q hx_E hE H locs ls hw hl
  have hx := hx_E.1; have hb := hx_E.2.1; have hown := hx_E.2.2.2.1; have hts := hx_E.2.2.2.2.1
  replace hl : lv_has ls 3 [(0, .ref (ad 0)), (1, .int l1)] := hl
  unfold f_X7_misfit at h
  refine lv_aload_n hx hb dX7_misfit_0 rfl (lv_at hl 0 rfl) ?_
  obtain ⟨⟨v1, σ2⟩, k3, h⟩ := it_b h
  refine kV_z (As := []) (rest := []) (q := 0) hx_E hw (c_X7_fits l K ad hI   σ k3) mi_X7_fits mv_X7_fits ml_X7_137 (by decide) rfl rfl rfl ⟨⟨Nat.le_of_ble_eq_true rfl, Nat.le_of_ble_eq_true rfl⟩, rfl, rfl⟩ ⟨Nat.zero_le _, Nat.zero_le _⟩ hl.1 rfl (Nat.le_of_ble_eq_true rfl) dX7_misfit_1 (fun z4 H locs hw => ?_)
  refine lv_istore_n (lv' := [(2, .int v1), (0, .ref (ad 0)), (1, .int l1)]) hx hb dX7_misfit_4 rfl hl (by decide) rfl (fun ls hl => ?_)
  refine lv_iload_n hx hb dX7_misfit_5 rfl (lv_at hl 2 rfl) ?_
  by_cases c8 : l1 = 0
  · replace h := it_t c8 h
    refine lv_tableIn (off := 34) (tgt := 40) hx hb dX7_misfit_6 (by rw [c8]; decide) (by rw [c8]; decide) (by rw [c8]; rfl) (by decide) ?_
    refine lv_aload_n hx hb dX7_misfit_40 rfl (lv_at hl 1 rfl) ?_
    refine gM_0_9 hx_E hw fl_X7_88 dX7_misfit_41 ?_
    exact hE hw (congrArg Prod.fst (Option.some.inj h)) (congrArg Prod.snd (Option.some.inj h)) dX7_misfit_44
  replace h := it_f c8 h
  by_cases c9 : l1 = 1
  · replace h := it_t c9 h
    refine lv_tableIn (off := 39) (tgt := 45) hx hb dX7_misfit_6 (by rw [c9]; decide) (by rw [c9]; decide) (by rw [c9]; rfl) (by decide) ?_
    refine lv_aload_n hx hb dX7_misfit_45 rfl (lv_at hl 1 rfl) ?_
    refine gM_0_10 hx_E hw fl_X7_91 dX7_misfit_46 ?_
    exact hE hw (congrArg Prod.fst (Option.some.inj h)) (congrArg Prod.snd (Option.some.inj h)) dX7_misfit_49
  replace h := it_f c9 h
  by_cases c10 : l1 = 2
  · replace h := it_t c10 h
    refine lv_tableIn (off := 44) (tgt := 50) hx hb dX7_misfit_6 (by rw [c10]; decide) (by rw [c10]; decide) (by rw [c10]; rfl) (by decide) ?_
    refine lv_aload_n hx hb dX7_misfit_50 rfl (lv_at hl 1 rfl) ?_
    refine gM_0_11 hx_E hw fl_X7_101 dX7_misfit_51 ?_
    exact hE hw (congrArg Prod.fst (Option.some.inj h)) (congrArg Prod.snd (Option.some.inj h)) dX7_misfit_54
  replace h := it_f c10 h
  by_cases c11 : l1 = 3
  · replace h := it_t c11 h
    refine lv_tableIn (off := 49) (tgt := 55) hx hb dX7_misfit_6 (by rw [c11]; decide) (by rw [c11]; decide) (by rw [c11]; rfl) (by decide) ?_
    refine lv_iload_n hx hb dX7_misfit_55 rfl (lv_at hl 0 rfl) ?_
    refine lv_if_eq (tgt := 63) hx hb dX7_misfit_56 (by decide) (fun c5 => ?_) (fun c5 => ?_)
    · replace h := it_t c5 h
      refine lv_iconst (v := 0) hx hb dX7_misfit_63 (by decide) ?_
      exact hE hw (congrArg Prod.fst (Option.some.inj h)) (congrArg Prod.snd (Option.some.inj h)) dX7_misfit_64
    · replace h := it_f c5 h
      refine lv_iconst (v := 1) hx hb dX7_misfit_59 (by decide) ?_
      refine lv_goto (tgt := 64) hx hb dX7_misfit_60 (by decide) ?_
      exact hE hw (congrArg Prod.fst (Option.some.inj h)) (congrArg Prod.snd (Option.some.inj h)) dX7_misfit_64
  replace h := it_f c11 h
  by_cases c12 : l1 = 4
  · replace h := it_t c12 h
    refine lv_tableIn (off := 59) (tgt := 65) hx hb dX7_misfit_6 (by rw [c12]; decide) (by rw [c12]; decide) (by rw [c12]; rfl) (by decide) ?_
    refine lv_iload_n hx hb dX7_misfit_65 rfl (lv_at hl 0 rfl) ?_
    refine lv_if_eq (tgt := 80) hx hb dX7_misfit_66 (by decide) (fun c6 => ?_) (fun c6 => ?_)
    · replace h := it_t c6 h
      refine lv_iconst (v := 0) hx hb dX7_misfit_80 (by decide) ?_
      exact hE hw (congrArg Prod.fst (Option.some.inj h)) (congrArg Prod.snd (Option.some.inj h)) dX7_misfit_81
    · replace h := it_f c6 h
      refine lv_aload_n hx hb dX7_misfit_69 rfl (lv_at hl 1 rfl) ?_
      refine gM_0_12 hx_E hw fl_X7_97 dX7_misfit_70 ?_
      refine lv_if_eq (tgt := 80) hx hb dX7_misfit_73 (by decide) (fun c7 => ?_) (fun c7 => ?_)
      · replace h := it_t c7 h
        refine lv_iconst (v := 0) hx hb dX7_misfit_80 (by decide) ?_
        exact hE hw (congrArg Prod.fst (Option.some.inj h)) (congrArg Prod.snd (Option.some.inj h)) dX7_misfit_81
      · replace h := it_f c7 h
        refine lv_iconst (v := 1) hx hb dX7_misfit_76 (by decide) ?_
        refine lv_goto (tgt := 81) hx hb dX7_misfit_77 (by decide) ?_
        exact hE hw (congrArg Prod.fst (Option.some.inj h)) (congrArg Prod.snd (Option.some.inj h)) dX7_misfit_81
  replace h := it_f c12 h
  refine lv_tableOut (tgt := 82) hx hb dX7_misfit_6 (sw_out0_4 c8 c9 c10 c11 c12) (by decide) ?_
  refine lv_bipush (v := -2) hx hb dX7_misfit_82 (by decide) ?_
  exact hE hw (congrArg Prod.fst (Option.some.inj h)) (congrArg Prod.snd (Option.some.inj h)) dX7_misfit_84
set_option maxHeartbeats 4000000 in
set_option maxRecDepth 100000 in
theorem c_X7_hint (l : Launch) (K : vK) (ad : Nat → Nat) (hI : adInj 12 ad) (l1 : Int32) (σ : vSt) {r : Int32} {σ' : vSt} (h : f_X7_hint l1 σ = some (r, σ')) : MCi l yX7_hint (wsY yX7_hint cX7_hint 2 (some .int)) (rmF 11 228) K 12 ad (cM K ad) [.ref (ad 0), .int l1] σ r σ' := by
  refine MCi_of (own := RX7) (plainFor_of_name (by decide)) hI rfl (Nat.le_of_ble_eq_true rfl) ?_
  intro p e s m args below meth c A Q hx_E hE H locs ls hw hl
  have hx := hx_E.1; have hb := hx_E.2.1; have hown := hx_E.2.2.2.1; have hts := hx_E.2.2.2.2.1
  replace hl : lv_has ls 2 [(0, .ref (ad 0)), (1, .int l1)] := hl
  unfold f_X7_hint at h
  refine lv_iload_n hx hb dX7_hint_0 rfl (lv_at hl 1 rfl) ?_
  refine lv_iconst (v := 0) hx hb dX7_hint_1 (by decide) ?_
  refine lv_iconst (v := 3) hx hb dX7_hint_2 (by decide) ?_
  obtain ⟨v1, k2, h⟩ := it_b h
  refine kS_z (As := [.int l1, .int (0 : Int32), .int (3 : Int32)]) (rest := []) hx_E hw (c_X7_in l K l1 (0 : Int32) (3 : Int32) k2) mi_X7_in sm_X7_in ml_X7_162 rfl ⟨⟨Nat.le_of_ble_eq_true rfl, Nat.le_of_ble_eq_true rfl⟩, rfl, rfl⟩ ⟨Nat.zero_le _, Nat.zero_le _⟩ hl.1 rfl (Nat.le_of_ble_eq_true rfl) dX7_hint_3 (fun z3 H locs hw => ?_)
  refine lv_if_ne (tgt := 12) hx hb dX7_hint_6 (by decide) (fun c4 => ?_) (fun c4 => ?_)
  · replace h := it_f c4 h
    refine lv_aload_n hx hb dX7_hint_12 rfl (lv_at hl 0 rfl) ?_
    obtain ⟨⟨v5, σ6⟩, k7, h⟩ := it_b h
    refine kV_z (As := []) (rest := []) (q := 0) hx_E hw (c_X7_fits l K ad hI   σ k7) mi_X7_fits mv_X7_fits ml_X7_137 (by decide) rfl rfl rfl ⟨⟨Nat.le_of_ble_eq_true rfl, Nat.le_of_ble_eq_true rfl⟩, rfl, rfl⟩ ⟨Nat.zero_le _, Nat.zero_le _⟩ hl.1 rfl (Nat.le_of_ble_eq_true rfl) dX7_hint_13 (fun z8 H locs hw => ?_)
    refine lv_if_ne (tgt := 22) hx hb dX7_hint_16 (by decide) (fun c9 => ?_) (fun c9 => ?_)
    · replace h := it_f c9 h
      refine lv_aload_n hx hb dX7_hint_22 rfl (lv_at hl 0 rfl) ?_
      refine lv_bipush (v := 7) hx hb dX7_hint_23 (by decide) ?_
      obtain ⟨⟨v10, σ11⟩, k12, h⟩ := it_b h
      refine kV_z (As := [.int (7 : Int32)]) (rest := []) (q := 0) hx_E hw (c_X7_findsNext l K ad hI  (7 : Int32) σ6 k12) mi_X7_findsNext mv_X7_findsNext ml_X7_196 (by decide) rfl rfl rfl ⟨⟨Nat.le_of_ble_eq_true rfl, Nat.le_of_ble_eq_true rfl⟩, rfl, rfl⟩ ⟨Nat.zero_le _, Nat.zero_le _⟩ hl.1 rfl (Nat.le_of_ble_eq_true rfl) dX7_hint_25 (fun z13 H locs hw => ?_)
      refine lv_if_ne (tgt := 33) hx hb dX7_hint_28 (by decide) (fun c14 => ?_) (fun c14 => ?_)
      · replace h := it_f c14 h
        refine lv_iload_n hx hb dX7_hint_33 rfl (lv_at hl 1 rfl) ?_
        refine lv_if_ne (tgt := 44) hx hb dX7_hint_34 (by decide) (fun c15 => ?_) (fun c15 => ?_)
        · replace h := it_f c15 h
          refine lv_iload_n hx hb dX7_hint_44 rfl (lv_at hl 1 rfl) ?_
          refine lv_iconst (v := 1) hx hb dX7_hint_45 (by decide) ?_
          refine lv_icmp_ne (tgt := 56) hx hb dX7_hint_46 (by decide) (fun c16 => ?_) (fun c16 => ?_)
          · replace h := it_f c16 h
            refine lv_iload_n hx hb dX7_hint_56 rfl (lv_at hl 1 rfl) ?_
            refine lv_iconst (v := 2) hx hb dX7_hint_57 (by decide) ?_
            refine lv_icmp_ne (tgt := 68) hx hb dX7_hint_58 (by decide) (fun c17 => ?_) (fun c17 => ?_)
            · replace h := it_f c17 h
              refine lv_aload_n hx hb dX7_hint_68 rfl (lv_at hl 0 rfl) ?_
              refine gM_0_16 hx_E hw fl_X7_124 dX7_hint_69 ?_
              exact hE hw (congrArg Prod.fst (Option.some.inj h)) (congrArg Prod.snd (Option.some.inj h)) dX7_hint_72
            · replace h := it_t c17 h
              refine lv_aload_n hx hb dX7_hint_61 rfl (lv_at hl 0 rfl) ?_
              refine gM_0_15 hx_E hw fl_X7_121 dX7_hint_62 ?_
              refine lv_goto (tgt := 72) hx hb dX7_hint_65 (by decide) ?_
              exact hE hw (congrArg Prod.fst (Option.some.inj h)) (congrArg Prod.snd (Option.some.inj h)) dX7_hint_72
          · replace h := it_t c16 h
            refine lv_aload_n hx hb dX7_hint_49 rfl (lv_at hl 0 rfl) ?_
            refine gM_0_14 hx_E hw fl_X7_118 dX7_hint_50 ?_
            refine lv_goto (tgt := 72) hx hb dX7_hint_53 (by decide) ?_
            exact hE hw (congrArg Prod.fst (Option.some.inj h)) (congrArg Prod.snd (Option.some.inj h)) dX7_hint_72
        · replace h := it_t c15 h
          refine lv_aload_n hx hb dX7_hint_37 rfl (lv_at hl 0 rfl) ?_
          refine gM_0_13 hx_E hw fl_X7_115 dX7_hint_38 ?_
          refine lv_goto (tgt := 72) hx hb dX7_hint_41 (by decide) ?_
          exact hE hw (congrArg Prod.fst (Option.some.inj h)) (congrArg Prod.snd (Option.some.inj h)) dX7_hint_72
      · replace h := it_t c14 h
        refine lv_iconst (v := -1) hx hb dX7_hint_31 (by decide) ?_
        exact hE hw (congrArg Prod.fst (Option.some.inj h)) (congrArg Prod.snd (Option.some.inj h)) dX7_hint_32
    · replace h := it_t c9 h
      refine lv_bipush (v := -3) hx hb dX7_hint_19 (by decide) ?_
      exact hE hw (congrArg Prod.fst (Option.some.inj h)) (congrArg Prod.snd (Option.some.inj h)) dX7_hint_21
  · replace h := it_t c4 h
    refine lv_bipush (v := -2) hx hb dX7_hint_9 (by decide) ?_
    exact hE hw (congrArg Prod.fst (Option.some.inj h)) (congrArg Prod.snd (Option.some.inj h)) dX7_hint_11
set_option maxHeartbeats 4000000 in
set_option maxRecDepth 100000 in
theorem c_X7_way (l : Launch) (K : vK) (ad : Nat → Nat) (hI : adInj 12 ad) (l1 : Int32) (l2 : Int32) (σ : vSt) {r : Int32} {σ' : vSt} (h : f_X7_way l1 l2 σ = some (r, σ')) : MCi l yX7_way (wsY yX7_way cX7_way 5 (some .int)) (rmF 5 94) K 12 ad (cM K ad) [.ref (ad 0), .int l1, .int l2] σ r σ' := by
  refine MCi_of (own := RX7) (plainFor_of_name (by decide)) hI rfl (Nat.le_of_ble_eq_true rfl) ?_
  intro p e s m args below meth c A Q hx_E hE H locs ls hw hl
  have hx := hx_E.1; have hb := hx_E.2.1; have hown := hx_E.2.2.2.1; have hts := hx_E.2.2.2.2.1
  replace hl : lv_has ls 5 [(0, .ref (ad 0)), (1, .int l1), (2, .int l2)] := hl
  unfold f_X7_way at h
  refine lv_iload_n hx hb dX7_way_0 rfl (lv_at hl 1 rfl) ?_
  refine lv_iconst (v := 0) hx hb dX7_way_1 (by decide) ?_
  refine lv_aload_n hx hb dX7_way_2 rfl (lv_at hl 0 rfl) ?_
  obtain ⟨v1, k2, h⟩ := it_b h
  refine kV_i (As := []) (rest := [.int (0 : Int32), .int l1]) (q := 0) hx_E hw (c_X7_edges l K ad hI   σ k2) mi_X7_edges mv_X7_edges ml_X7_69 (by decide) rfl rfl rfl ⟨⟨Nat.le_of_ble_eq_true rfl, Nat.le_of_ble_eq_true rfl⟩, rfl, rfl⟩ ⟨Nat.zero_le _, Nat.zero_le _⟩ hl.1 rfl (Nat.le_of_ble_eq_true rfl) dX7_way_3 (fun H locs hw => ?_)
  refine lv_iconst (v := 1) hx hb dX7_way_6 (by decide) ?_
  refine lv_isub hx hb dX7_way_7 ?_
  obtain ⟨v3, k4, h⟩ := it_b h
  refine kS_z (As := [.int l1, .int (0 : Int32), .int (v1 - (1 : Int32))]) (rest := []) hx_E hw (c_X7_in l K l1 (0 : Int32) (v1 - (1 : Int32)) k4) mi_X7_in sm_X7_in ml_X7_162 rfl ⟨⟨Nat.le_of_ble_eq_true rfl, Nat.le_of_ble_eq_true rfl⟩, rfl, rfl⟩ ⟨Nat.zero_le _, Nat.zero_le _⟩ hl.1 rfl (Nat.le_of_ble_eq_true rfl) dX7_way_8 (fun z5 H locs hw => ?_)
  refine lv_if_eq (tgt := 23) hx hb dX7_way_11 (by decide) (fun c6 => ?_) (fun c6 => ?_)
  · replace h := it_t c6 h
    refine lv_bipush (v := -2) hx hb dX7_way_23 (by decide) ?_
    exact hE hw (congrArg Prod.fst (Option.some.inj h)) (congrArg Prod.snd (Option.some.inj h)) dX7_way_25
  · replace h := it_f c6 h
    refine lv_iload_n hx hb dX7_way_14 rfl (lv_at hl 2 rfl) ?_
    refine lv_iconst (v := 0) hx hb dX7_way_15 (by decide) ?_
    refine lv_iconst (v := 2) hx hb dX7_way_16 (by decide) ?_
    obtain ⟨v7, k8, h⟩ := it_b h
    refine kS_z (As := [.int l2, .int (0 : Int32), .int (2 : Int32)]) (rest := []) hx_E hw (c_X7_in l K l2 (0 : Int32) (2 : Int32) k8) mi_X7_in sm_X7_in ml_X7_162 rfl ⟨⟨Nat.le_of_ble_eq_true rfl, Nat.le_of_ble_eq_true rfl⟩, rfl, rfl⟩ ⟨Nat.zero_le _, Nat.zero_le _⟩ hl.1 rfl (Nat.le_of_ble_eq_true rfl) dX7_way_17 (fun z9 H locs hw => ?_)
    refine lv_if_ne (tgt := 26) hx hb dX7_way_20 (by decide) (fun c10 => ?_) (fun c10 => ?_)
    · replace h := it_f c10 h
      refine lv_aload_n hx hb dX7_way_26 rfl (lv_at hl 0 rfl) ?_
      refine lv_iload_n hx hb dX7_way_27 rfl (lv_at hl 1 rfl) ?_
      obtain ⟨v11, k12, h⟩ := it_b h
      refine kV_i (As := [.int l1]) (rest := []) (q := 0) hx_E hw (c_X7_markOf l K ad hI  l1 σ k12) mi_X7_markOf mv_X7_markOf ml_X7_56 (by decide) rfl rfl rfl ⟨⟨Nat.le_of_ble_eq_true rfl, Nat.le_of_ble_eq_true rfl⟩, rfl, rfl⟩ ⟨Nat.zero_le _, Nat.zero_le _⟩ hl.1 rfl (Nat.le_of_ble_eq_true rfl) dX7_way_28 (fun H locs hw => ?_)
      refine lv_iconst (v := 1) hx hb dX7_way_31 (by decide) ?_
      refine lv_icmp_eq (tgt := 37) hx hb dX7_way_32 (by decide) (fun c13 => ?_) (fun c13 => ?_)
      · replace h := it_t c13 h
        refine lv_aload_n hx hb dX7_way_37 rfl (lv_at hl 0 rfl) ?_
        obtain ⟨σ14, k15, h⟩ := it_b h
        refine kV_v (As := []) (rest := []) (q := 0) hx_E hw (c_X7_joins l K ad hI   σ k15) mi_X7_joins mv_X7_joins ml_X7_94 (by decide) rfl rfl rfl ⟨⟨Nat.le_of_ble_eq_true rfl, Nat.le_of_ble_eq_true rfl⟩, rfl, rfl⟩ ⟨Nat.zero_le _, Nat.zero_le _⟩ hl.1 rfl (Nat.le_of_ble_eq_true rfl) dX7_way_38 (fun H locs hw => ?_)
        refine lv_aload_n hx hb dX7_way_41 rfl (lv_at hl 0 rfl) ?_
        refine lv_aload_n hx hb dX7_way_42 rfl (lv_at hl 0 rfl) ?_
        refine lv_iload_n hx hb dX7_way_43 rfl (lv_at hl 1 rfl) ?_
        refine lv_iconst (v := 0) hx hb dX7_way_44 (by decide) ?_
        obtain ⟨v16, k17, h⟩ := it_b h
        refine kV_i (As := [.int l1, .int (0 : Int32)]) (rest := [.ref (ad 0)]) (q := 0) hx_E hw (c_X7_end l K ad hI  l1 (0 : Int32) σ14 k17) mi_X7_end mv_X7_end ml_X7_72 (by decide) rfl rfl rfl ⟨⟨Nat.le_of_ble_eq_true rfl, Nat.le_of_ble_eq_true rfl⟩, rfl, rfl⟩ ⟨Nat.zero_le _, Nat.zero_le _⟩ hl.1 rfl (Nat.le_of_ble_eq_true rfl) dX7_way_45 (fun H locs hw => ?_)
        obtain ⟨v18, k19, h⟩ := it_b h
        refine kV_i (As := [.int v16]) (rest := []) (q := 0) hx_E hw (c_X7_top l K ad hI  v16 σ14 k19) mi_X7_top mv_X7_top ml_X7_76 (by decide) rfl rfl rfl ⟨⟨Nat.le_of_ble_eq_true rfl, Nat.le_of_ble_eq_true rfl⟩, rfl, rfl⟩ ⟨Nat.zero_le _, Nat.zero_le _⟩ hl.1 rfl (Nat.le_of_ble_eq_true rfl) dX7_way_48 (fun H locs hw => ?_)
        refine lv_istore_n (lv' := [(3, .int v18), (0, .ref (ad 0)), (1, .int l1), (2, .int l2)]) hx hb dX7_way_51 rfl hl (by decide) rfl (fun ls hl => ?_)
        refine lv_iload_n hx hb dX7_way_52 rfl (lv_at hl 3 rfl) ?_
        refine lv_iconst (v := 1) hx hb dX7_way_53 (by decide) ?_
        refine lv_icmp_eq (tgt := 84) hx hb dX7_way_54 (by decide) (fun c20 => ?_) (fun c20 => ?_)
        · replace h := it_t c20 h
          refine lv_iconst (v := 0) hx hb dX7_way_84 (by decide) ?_
          refine lv_istore (lv' := [(4, .int (0 : Int32)), (3, .int v18), (0, .ref (ad 0)), (1, .int l1), (2, .int l2)]) hx hb dX7_way_85 hl (by decide) rfl (fun ls hl => ?_)
          obtain ⟨φ25, h9, h_φ25⟩ := it_b h
          have hJ24 : ∀ (v22 : Int32), v22 = φ25 → ∀ (H : Heap) (locs : List Loc) (ls : Array Slot), PW K 12 ad (cM K ad) A s.heap σ14 H locs → lv_has ls 5 [(4, .int v22)] → W p l e (rmF 5 94) s m args below meth c H locs 0 0 Q (F0 m 118 ls []) := by
            intro v22 e9 H locs ls hw hl
            subst e9
            replace h := h_φ25
            refine lv_iload hx hb dX7_way_118 (lv_at hl 0 rfl) ?_
            exact hE hw (congrArg Prod.fst (Option.some.inj h)) (congrArg Prod.snd (Option.some.inj h)) dX7_way_120
          have hL23 : ∀ (n9 : Nat) (v21 : Int32), ∀ (H : Heap) (locs : List Loc) (ls : Array Slot), f_X7_way_87 v18 σ14 n9 v21 = some φ25 → PW K 12 ad (cM K ad) A s.heap σ14 H locs → lv_has ls 5 [(0, .ref (ad 0)), (3, .int v18), (4, .int v21)] → W p l e (rmF 5 94) s m args below meth c H locs 0 0 Q (F0 m 87 ls []) := by
            intro n9
            induction n9 with
            | zero => intro v21 H locs ls h hw hl; rw [f_X7_way_87.eq_1] at h; exact it_n h
            | succ n9 ih =>
              intro v21 H locs ls h hw hl
              rw [f_X7_way_87.eq_2] at h
              refine lv_aload_n hx hb dX7_way_87 rfl (lv_at hl 0 rfl) ?_
              refine lv_iload hx hb dX7_way_88 (lv_at hl 2 rfl) ?_
              obtain ⟨v26, k27, h⟩ := it_b h
              refine kV_i (As := [.int v21]) (rest := []) (q := 0) hx_E hw (c_X7_markOf l K ad hI  v21 σ14 k27) mi_X7_markOf mv_X7_markOf ml_X7_56 (by decide) rfl rfl rfl ⟨⟨Nat.le_of_ble_eq_true rfl, Nat.le_of_ble_eq_true rfl⟩, rfl, rfl⟩ ⟨Nat.zero_le _, Nat.zero_le _⟩ hl.1 rfl (Nat.le_of_ble_eq_true rfl) dX7_way_90 (fun H locs hw => ?_)
              refine lv_iconst (v := 1) hx hb dX7_way_93 (by decide) ?_
              refine lv_icmp_ne (tgt := 112) hx hb dX7_way_94 (by decide) (fun c28 => ?_) (fun c28 => ?_)
              · replace h := it_f c28 h
                refine lv_iinc (v := (v21 + 1)) (lv' := [(4, .int (v21 + 1)), (0, .ref (ad 0)), (3, .int v18)]) hx hb dX7_way_112 hl (k := 2) rfl rfl (by decide) rfl (fun ls hl => ?_)
                refine lv_goto (tgt := 87) hx hb dX7_way_115 (by decide) ?_
                exact ih _   H locs ls h hw (lv_sub hl [1, 2, 0] rfl)
              · replace h := it_t c28 h
                refine lv_aload_n hx hb dX7_way_97 rfl (lv_at hl 0 rfl) ?_
                refine lv_aload_n hx hb dX7_way_98 rfl (lv_at hl 0 rfl) ?_
                refine lv_iload hx hb dX7_way_99 (lv_at hl 2 rfl) ?_
                refine lv_iconst (v := 0) hx hb dX7_way_101 (by decide) ?_
                obtain ⟨v29, k30, h⟩ := it_b h
                refine kV_i (As := [.int v21, .int (0 : Int32)]) (rest := [.ref (ad 0)]) (q := 0) hx_E hw (c_X7_end l K ad hI  v21 (0 : Int32) σ14 k30) mi_X7_end mv_X7_end ml_X7_72 (by decide) rfl rfl rfl ⟨⟨Nat.le_of_ble_eq_true rfl, Nat.le_of_ble_eq_true rfl⟩, rfl, rfl⟩ ⟨Nat.zero_le _, Nat.zero_le _⟩ hl.1 rfl (Nat.le_of_ble_eq_true rfl) dX7_way_102 (fun H locs hw => ?_)
                obtain ⟨v31, k32, h⟩ := it_b h
                refine kV_i (As := [.int v29]) (rest := []) (q := 0) hx_E hw (c_X7_top l K ad hI  v29 σ14 k32) mi_X7_top mv_X7_top ml_X7_76 (by decide) rfl rfl rfl ⟨⟨Nat.le_of_ble_eq_true rfl, Nat.le_of_ble_eq_true rfl⟩, rfl, rfl⟩ ⟨Nat.zero_le _, Nat.zero_le _⟩ hl.1 rfl (Nat.le_of_ble_eq_true rfl) dX7_way_105 (fun H locs hw => ?_)
                refine lv_iload_n hx hb dX7_way_108 rfl (lv_at hl 1 rfl) ?_
                refine lv_icmp_eq (tgt := 118) hx hb dX7_way_109 (by decide) (fun c33 => ?_) (fun c33 => ?_)
                · replace h := it_t c33 h
                  have e9 := Option.some.inj h
                  subst e9
                  exact hJ24 _ rfl  H locs ls hw (lv_sub hl [2] rfl)
                · replace h := it_f c33 h
                  refine lv_iinc (v := (v21 + 1)) (lv' := [(4, .int (v21 + 1)), (0, .ref (ad 0)), (3, .int v18)]) hx hb dX7_way_112 hl (k := 2) rfl rfl (by decide) rfl (fun ls hl => ?_)
                  refine lv_goto (tgt := 87) hx hb dX7_way_115 (by decide) ?_
                  exact ih _   H locs ls h hw (lv_sub hl [1, 2, 0] rfl)
          exact hL23 600 _  H locs ls h9 hw (lv_sub hl [2, 1, 0] rfl)
        · replace h := it_f c20 h
          refine lv_iload_n hx hb dX7_way_57 rfl (lv_at hl 3 rfl) ?_
          refine lv_if_ne (tgt := 70) hx hb dX7_way_58 (by decide) (fun c34 => ?_) (fun c34 => ?_)
          · replace h := it_f c34 h
            refine lv_aload_n hx hb dX7_way_70 rfl (lv_at hl 1 rfl) ?_
            refine lv_iload_n hx hb dX7_way_71 rfl (lv_at hl 0 rfl) ?_
            obtain ⟨v35, k36, h⟩ := it_b h
            refine kV_z (As := [.int v18]) (rest := []) (q := 0) hx_E hw (c_X7_isRing l K ad hI  v18 σ14 k36) mi_X7_isRing mv_X7_isRing ml_X7_108 (by decide) rfl rfl rfl ⟨⟨Nat.le_of_ble_eq_true rfl, Nat.le_of_ble_eq_true rfl⟩, rfl, rfl⟩ ⟨Nat.zero_le _, Nat.zero_le _⟩ hl.1 rfl (Nat.le_of_ble_eq_true rfl) dX7_way_72 (fun z37 H locs hw => ?_)
            refine lv_if_eq (tgt := 82) hx hb dX7_way_75 (by decide) (fun c38 => ?_) (fun c38 => ?_)
            · replace h := it_t c38 h
              refine lv_iconst (v := 0) hx hb dX7_way_82 (by decide) ?_
              exact hE hw (congrArg Prod.fst (Option.some.inj h)) (congrArg Prod.snd (Option.some.inj h)) dX7_way_83
            · replace h := it_f c38 h
              refine lv_iconst (v := 1) hx hb dX7_way_78 (by decide) ?_
              refine lv_goto (tgt := 83) hx hb dX7_way_79 (by decide) ?_
              exact hE hw (congrArg Prod.fst (Option.some.inj h)) (congrArg Prod.snd (Option.some.inj h)) dX7_way_83
          · replace h := it_t c34 h
            refine lv_aload_n hx hb dX7_way_61 rfl (lv_at hl 1 rfl) ?_
            refine gM_0_6 hx_E hw fl_X7_22 dX7_way_62 ?_
            refine lv_iload_n hx hb dX7_way_65 rfl (lv_at hl 0 rfl) ?_
            obtain ⟨g39, h⟩ := it_g h
            refine aM_5 hx_E hw g39 dX7_way_66 ?_
            refine lv_goto (tgt := 83) hx hb dX7_way_67 (by decide) ?_
            exact hE hw (congrArg Prod.fst (Option.some.inj h)) (congrArg Prod.snd (Option.some.inj h)) dX7_way_83
      · replace h := it_f c13 h
        refine lv_iconst (v := -1) hx hb dX7_way_35 (by decide) ?_
        exact hE hw (congrArg Prod.fst (Option.some.inj h)) (congrArg Prod.snd (Option.some.inj h)) dX7_way_36
    · replace h := it_t c10 h
      refine lv_bipush (v := -2) hx hb dX7_way_23 (by decide) ?_
      exact hE hw (congrArg Prod.fst (Option.some.inj h)) (congrArg Prod.snd (Option.some.inj h)) dX7_way_25
set_option maxHeartbeats 4000000 in
set_option maxRecDepth 100000 in
theorem c_X7_puts (l : Launch) (K : vK) (ad : Nat → Nat) (hI : adInj 12 ad) (l1 : Int32) (σ : vSt) {σ' : vSt} (h : f_X7_puts l1 σ = some σ') : MCv l yX7_puts (wsY yX7_puts cX7_puts 3 none) (rmF 1 0) K 12 ad (cM K ad) [.ref (ad 0), .int l1] σ σ' := by
  refine MCv_of (own := RX7) (plainFor_of_name (by decide)) hI rfl (Nat.le_of_ble_eq_true rfl) ?_
  intro p e s m args below meth c A Q hx_E hE H locs ls hw hl
  have hx := hx_E.1; have hb := hx_E.2.1; have hown := hx_E.2.2.2.1; have hts := hx_E.2.2.2.2.1
  replace hl : lv_has ls 3 [(0, .ref (ad 0)), (1, .int l1)] := hl
  unfold f_X7_puts at h
  refine lv_iconst (v := 0) hx hb dX7_puts_0 (by decide) ?_
  refine lv_istore_n (lv' := [(2, .int (0 : Int32)), (0, .ref (ad 0)), (1, .int l1)]) hx hb dX7_puts_1 rfl hl (by decide) rfl (fun ls hl => ?_)
  obtain ⟨φ6, h9, h_φ6⟩ := it_b h
  have hJ5 : ∀ (σ3 : vSt), σ3 = φ6 → ∀ (H : Heap) (locs : List Loc) (ls : Array Slot), PW K 12 ad (cM K ad) A s.heap σ3 H locs → lv_has ls 3 [] → W p l e (rmF 1 0) s m args below meth c H locs 0 0 Q (F0 m 34 ls []) := by
    intro σ3 e9 H locs ls hw hl
    subst e9
    replace h := h_φ6
    exact hE hw (Option.some.inj h) dX7_puts_34
  have hL4 : ∀ (n9 : Nat) (v1 : Int32) (σ2 : vSt), ∀ (H : Heap) (locs : List Loc) (ls : Array Slot), f_X7_puts_2 l1 n9 v1 σ2 = some φ6 → PW K 12 ad (cM K ad) A s.heap σ2 H locs → lv_has ls 3 [(0, .ref (ad 0)), (1, .int l1), (2, .int v1)] → W p l e (rmF 1 0) s m args below meth c H locs 0 0 Q (F0 m 2 ls []) := by
    intro n9
    induction n9 with
    | zero => intro v1 σ2 H locs ls h hw hl; rw [f_X7_puts_2.eq_1] at h; exact it_n h
    | succ n9 ih =>
      intro v1 σ2 H locs ls h hw hl
      rw [f_X7_puts_2.eq_2] at h
      refine lv_iload_n hx hb dX7_puts_2 rfl (lv_at hl 2 rfl) ?_
      refine lv_bipush (v := 40) hx hb dX7_puts_3 (by decide) ?_
      refine lv_icmp_ge (tgt := 34) hx hb dX7_puts_5 (by decide) (fun c7 => ?_) (fun c7 => ?_)
      · replace h := it_t c7 h
        have e9 := Option.some.inj h
        subst e9
        exact hJ5 _ rfl  H locs ls hw (lv_sub hl [] rfl)
      · replace h := it_f c7 h
        refine lv_aload_n hx hb dX7_puts_8 rfl (lv_at hl 0 rfl) ?_
        refine gM_0_23 hx_E hw fl_X7_35 dX7_puts_9 ?_
        refine lv_bipush (v := 40) hx hb dX7_puts_12 (by decide) ?_
        refine lv_iload_n hx hb dX7_puts_14 rfl (lv_at hl 1 rfl) ?_
        refine lv_imul hx hb dX7_puts_15 ?_
        refine lv_iload_n hx hb dX7_puts_16 rfl (lv_at hl 2 rfl) ?_
        refine lv_iadd hx hb dX7_puts_17 ?_
        refine lv_aload_n hx hb dX7_puts_18 rfl (lv_at hl 0 rfl) ?_
        refine gM_0_0 hx_E hw fl_X7_7 dX7_puts_19 ?_
        refine lv_bipush (v := 18) hx hb dX7_puts_22 (by decide) ?_
        refine lv_iload_n hx hb dX7_puts_24 rfl (lv_at hl 2 rfl) ?_
        refine lv_iadd hx hb dX7_puts_25 ?_
        obtain ⟨g8, h⟩ := it_g h
        refine aM_1 hx_E hw g8 dX7_puts_26 ?_
        obtain ⟨g9, h⟩ := it_g h
        refine sM_9 hx_E hw g9 dX7_puts_27 (fun H locs hw => ?_)
        refine lv_iinc (v := (v1 + 1)) (lv' := [(2, .int (v1 + 1)), (0, .ref (ad 0)), (1, .int l1)]) hx hb dX7_puts_28 hl (k := 2) rfl rfl (by decide) rfl (fun ls hl => ?_)
        refine lv_goto (tgt := 2) hx hb dX7_puts_31 (by decide) ?_
        exact ih _ _  H locs ls h hw (lv_sub hl [1, 2, 0] rfl)
  exact hL4 600 _ _  H locs ls h9 hw (lv_sub hl [1, 2, 0] rfl)
set_option maxHeartbeats 4000000 in
set_option maxRecDepth 100000 in
theorem c_X7_takes (l : Launch) (K : vK) (ad : Nat → Nat) (hI : adInj 12 ad) (l1 : Int32) (σ : vSt) {σ' : vSt} (h : f_X7_takes l1 σ = some σ') : MCv l yX7_takes (wsY yX7_takes cX7_takes 3 none) (rmF 1 0) K 12 ad (cM K ad) [.ref (ad 0), .int l1] σ σ' := by
  refine MCv_of (own := RX7) (plainFor_of_name (by decide)) hI rfl (Nat.le_of_ble_eq_true rfl) ?_
  intro p e s m args below meth c A Q hx_E hE H locs ls hw hl
  have hx := hx_E.1; have hb := hx_E.2.1; have hown := hx_E.2.2.2.1; have hts := hx_E.2.2.2.2.1
  replace hl : lv_has ls 3 [(0, .ref (ad 0)), (1, .int l1)] := hl
  unfold f_X7_takes at h
  refine lv_iconst (v := 0) hx hb dX7_takes_0 (by decide) ?_
  refine lv_istore_n (lv' := [(2, .int (0 : Int32)), (0, .ref (ad 0)), (1, .int l1)]) hx hb dX7_takes_1 rfl hl (by decide) rfl (fun ls hl => ?_)
  obtain ⟨φ6, h9, h_φ6⟩ := it_b h
  have hJ5 : ∀ (σ3 : vSt), σ3 = φ6 → ∀ (H : Heap) (locs : List Loc) (ls : Array Slot), PW K 12 ad (cM K ad) A s.heap σ3 H locs → lv_has ls 3 [] → W p l e (rmF 1 0) s m args below meth c H locs 0 0 Q (F0 m 34 ls []) := by
    intro σ3 e9 H locs ls hw hl
    subst e9
    replace h := h_φ6
    exact hE hw (Option.some.inj h) dX7_takes_34
  have hL4 : ∀ (n9 : Nat) (v1 : Int32) (σ2 : vSt), ∀ (H : Heap) (locs : List Loc) (ls : Array Slot), f_X7_takes_2 l1 n9 v1 σ2 = some φ6 → PW K 12 ad (cM K ad) A s.heap σ2 H locs → lv_has ls 3 [(0, .ref (ad 0)), (1, .int l1), (2, .int v1)] → W p l e (rmF 1 0) s m args below meth c H locs 0 0 Q (F0 m 2 ls []) := by
    intro n9
    induction n9 with
    | zero => intro v1 σ2 H locs ls h hw hl; rw [f_X7_takes_2.eq_1] at h; exact it_n h
    | succ n9 ih =>
      intro v1 σ2 H locs ls h hw hl
      rw [f_X7_takes_2.eq_2] at h
      refine lv_iload_n hx hb dX7_takes_2 rfl (lv_at hl 2 rfl) ?_
      refine lv_bipush (v := 40) hx hb dX7_takes_3 (by decide) ?_
      refine lv_icmp_ge (tgt := 34) hx hb dX7_takes_5 (by decide) (fun c7 => ?_) (fun c7 => ?_)
      · replace h := it_t c7 h
        have e9 := Option.some.inj h
        subst e9
        exact hJ5 _ rfl  H locs ls hw (lv_sub hl [] rfl)
      · replace h := it_f c7 h
        refine lv_aload_n hx hb dX7_takes_8 rfl (lv_at hl 0 rfl) ?_
        refine gM_0_0 hx_E hw fl_X7_7 dX7_takes_9 ?_
        refine lv_bipush (v := 18) hx hb dX7_takes_12 (by decide) ?_
        refine lv_iload_n hx hb dX7_takes_14 rfl (lv_at hl 2 rfl) ?_
        refine lv_iadd hx hb dX7_takes_15 ?_
        refine lv_aload_n hx hb dX7_takes_16 rfl (lv_at hl 0 rfl) ?_
        refine gM_0_23 hx_E hw fl_X7_35 dX7_takes_17 ?_
        refine lv_bipush (v := 40) hx hb dX7_takes_20 (by decide) ?_
        refine lv_iload_n hx hb dX7_takes_22 rfl (lv_at hl 1 rfl) ?_
        refine lv_imul hx hb dX7_takes_23 ?_
        refine lv_iload_n hx hb dX7_takes_24 rfl (lv_at hl 2 rfl) ?_
        refine lv_iadd hx hb dX7_takes_25 ?_
        obtain ⟨g8, h⟩ := it_g h
        refine aM_9 hx_E hw g8 dX7_takes_26 ?_
        obtain ⟨g9, h⟩ := it_g h
        refine sM_1 hx_E hw g9 dX7_takes_27 (fun H locs hw => ?_)
        refine lv_iinc (v := (v1 + 1)) (lv' := [(2, .int (v1 + 1)), (0, .ref (ad 0)), (1, .int l1)]) hx hb dX7_takes_28 hl (k := 2) rfl rfl (by decide) rfl (fun ls hl => ?_)
        refine lv_goto (tgt := 2) hx hb dX7_takes_31 (by decide) ?_
        exact ih _ _  H locs ls h hw (lv_sub hl [1, 2, 0] rfl)
  exact hL4 600 _ _  H locs ls h9 hw (lv_sub hl [1, 2, 0] rfl)
