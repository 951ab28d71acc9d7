set_option maxHeartbeats 4000000 in
set_option maxRecDepth 100000 in
theorem c_X6_misfit (l : Launch) (K : vK) (ad : Nat → Nat) (hI : adInj 30 ad) (l1 : Int32) (σ : vSt) {r : Int32} (h : f_X6_misfit l1 σ = some r) : MCi l yX6_misfit (wsY yX6_misfit cX6_misfit 2 (some .int)) (rmF 3 42) K 30 ad (cC K ad) [.ref (ad 8), .int l1] σ r σ := by
  refine MCi_of (own := RX6) (plainFor_of_name (by decide)) hI rfl (Nat.le_of_ble_eq_true rfl) ?_
  intro p e s m args below meth c A Q hx_E hE H locs ls hw hl
  have hx := hx_E.1; have hb := hx_E.2.1; have hown := hx_E.2.2.2.1; have hts := hx_E.2.2.2.2.1
  replace hl : lv_has ls 2 [(0, .ref (ad 8)), (1, .int l1)] := hl
  unfold f_X6_misfit at h
  refine lv_iload_n hx hb dX6_misfit_0 rfl (lv_at hl 1 rfl) ?_
  by_cases c15 : l1 = 0
  · replace h := it_t c15 h
    refine lv_tableIn (off := 35) (tgt := 36) hx hb dX6_misfit_1 (by rw [c15]; decide) (by rw [c15]; decide) (by rw [c15]; rfl) (by decide) ?_
    refine lv_aload_n hx hb dX6_misfit_36 rfl (lv_at hl 0 rfl) ?_
    refine gC_8_1 hx_E hw fl_X6_33 dX6_misfit_37 ?_
    refine gC_B_4 hx_E hw isB_6 fl_X6_162 dX6_misfit_40 ?_
    refine lv_i2l (v := (gI σ 6 4).toInt64) hx hb dX6_misfit_43 rfl ?_
    obtain ⟨v1, k2, h⟩ := it_b h
    refine kS_i (As := [.long ((gI σ 6 4).toInt64)]) (rest := []) hx_E hw (c_X6_leastOf l K ((gI σ 6 4).toInt64) k2) mi_X6_leastOf sm_X6_leastOf ml_X6_159 rfl ⟨⟨Nat.le_of_ble_eq_true rfl, Nat.le_of_ble_eq_true rfl⟩, rfl, rfl⟩ ⟨Nat.zero_le _, Nat.zero_le _⟩ hl.1 rfl (Nat.le_of_ble_eq_true rfl) dX6_misfit_44 (fun H locs hw => ?_)
    exact hE hw (Option.some.inj h) rfl dX6_misfit_47
  replace h := it_f c15 h
  by_cases c16 : l1 = 1
  · replace h := it_t c16 h
    refine lv_tableIn (off := 47) (tgt := 48) hx hb dX6_misfit_1 (by rw [c16]; decide) (by rw [c16]; decide) (by rw [c16]; rfl) (by decide) ?_
    refine lv_aload_n hx hb dX6_misfit_48 rfl (lv_at hl 0 rfl) ?_
    refine gC_8_1 hx_E hw fl_X6_33 dX6_misfit_49 ?_
    refine gC_B_6 hx_E hw isB_6 fl_X6_165 dX6_misfit_52 ?_
    refine lv_i2l (v := (gI σ 6 6).toInt64) hx hb dX6_misfit_55 rfl ?_
    obtain ⟨v3, k4, h⟩ := it_b h
    refine kS_i (As := [.long ((gI σ 6 6).toInt64)]) (rest := []) hx_E hw (c_X6_leastOf l K ((gI σ 6 6).toInt64) k4) mi_X6_leastOf sm_X6_leastOf ml_X6_159 rfl ⟨⟨Nat.le_of_ble_eq_true rfl, Nat.le_of_ble_eq_true rfl⟩, rfl, rfl⟩ ⟨Nat.zero_le _, Nat.zero_le _⟩ hl.1 rfl (Nat.le_of_ble_eq_true rfl) dX6_misfit_56 (fun H locs hw => ?_)
    exact hE hw (Option.some.inj h) rfl dX6_misfit_59
  replace h := it_f c16 h
  by_cases c17 : l1 = 2
  · replace h := it_t c17 h
    refine lv_tableIn (off := 59) (tgt := 60) hx hb dX6_misfit_1 (by rw [c17]; decide) (by rw [c17]; decide) (by rw [c17]; rfl) (by decide) ?_
    refine lv_aload_n hx hb dX6_misfit_60 rfl (lv_at hl 0 rfl) ?_
    refine gC_8_1 hx_E hw fl_X6_33 dX6_misfit_61 ?_
    refine gC_B_8 hx_E hw isB_6 fl_X6_168 dX6_misfit_64 ?_
    obtain ⟨v5, k6, h⟩ := it_b h
    refine kS_i (As := [.long (gL σ 6 8)]) (rest := []) hx_E hw (c_X6_leastOf l K (gL σ 6 8) k6) mi_X6_leastOf sm_X6_leastOf ml_X6_159 rfl ⟨⟨Nat.le_of_ble_eq_true rfl, Nat.le_of_ble_eq_true rfl⟩, rfl, rfl⟩ ⟨Nat.zero_le _, Nat.zero_le _⟩ hl.1 rfl (Nat.le_of_ble_eq_true rfl) dX6_misfit_67 (fun H locs hw => ?_)
    exact hE hw (Option.some.inj h) rfl dX6_misfit_70
  replace h := it_f c17 h
  by_cases c18 : l1 = 3
  · replace h := it_t c18 h
    refine lv_tableIn (off := 70) (tgt := 71) hx hb dX6_misfit_1 (by rw [c18]; decide) (by rw [c18]; decide) (by rw [c18]; rfl) (by decide) ?_
    refine lv_aload_n hx hb dX6_misfit_71 rfl (lv_at hl 0 rfl) ?_
    refine gC_8_1 hx_E hw fl_X6_33 dX6_misfit_72 ?_
    obtain ⟨v7, k8, h⟩ := it_b h
    refine kV_z (As := []) (rest := []) (q := 6) hx_E hw (c_X0_fits l K 30 ad hI 6 isB_6  σ k8) mi_X0_fits mv_X0_fits ml_X6_129 (by decide) rfl rfl rfl ⟨⟨Nat.le_of_ble_eq_true rfl, Nat.le_of_ble_eq_true rfl⟩, rfl, rfl⟩ ⟨Nat.zero_le _, Nat.zero_le _⟩ hl.1 rfl (Nat.le_of_ble_eq_true rfl) dX6_misfit_75 (fun z9 H locs hw => ?_)
    refine lv_if_eq (tgt := 85) hx hb dX6_misfit_78 (by decide) (fun c10 => ?_) (fun c10 => ?_)
    · replace h := it_t c10 h
      refine lv_iconst (v := 0) hx hb dX6_misfit_85 (by decide) ?_
      exact hE hw (Option.some.inj h) rfl dX6_misfit_86
    · replace h := it_f c10 h
      refine lv_iconst (v := 1) hx hb dX6_misfit_81 (by decide) ?_
      refine lv_goto (tgt := 86) hx hb dX6_misfit_82 (by decide) ?_
      exact hE hw (Option.some.inj h) rfl dX6_misfit_86
  replace h := it_f c18 h
  by_cases c19 : l1 = 4
  · replace h := it_t c19 h
    refine lv_tableIn (off := 86) (tgt := 87) hx hb dX6_misfit_1 (by rw [c19]; decide) (by rw [c19]; decide) (by rw [c19]; rfl) (by decide) ?_
    refine lv_aload_n hx hb dX6_misfit_87 rfl (lv_at hl 0 rfl) ?_
    refine gC_8_1 hx_E hw fl_X6_33 dX6_misfit_88 ?_
    obtain ⟨v11, k12, h⟩ := it_b h
    refine kV_z (As := []) (rest := []) (q := 6) hx_E hw (c_X0_finished l K 30 ad hI 6 isB_6  σ k12) mi_X0_finished mv_X0_finished ml_X6_171 (by decide) rfl rfl rfl ⟨⟨Nat.le_of_ble_eq_true rfl, Nat.le_of_ble_eq_true rfl⟩, rfl, rfl⟩ ⟨Nat.zero_le _, Nat.zero_le _⟩ hl.1 rfl (Nat.le_of_ble_eq_true rfl) dX6_misfit_91 (fun z13 H locs hw => ?_)
    refine lv_if_eq (tgt := 101) hx hb dX6_misfit_94 (by decide) (fun c14 => ?_) (fun c14 => ?_)
    · replace h := it_t c14 h
      refine lv_iconst (v := 0) hx hb dX6_misfit_101 (by decide) ?_
      exact hE hw (Option.some.inj h) rfl dX6_misfit_102
    · replace h := it_f c14 h
      refine lv_iconst (v := 1) hx hb dX6_misfit_97 (by decide) ?_
      refine lv_goto (tgt := 102) hx hb dX6_misfit_98 (by decide) ?_
      exact hE hw (Option.some.inj h) rfl dX6_misfit_102
  replace h := it_f c19 h
  refine lv_tableOut (tgt := 103) hx hb dX6_misfit_1 (sw_out0_4 c15 c16 c17 c18 c19) (by decide) ?_
  refine lv_bipush (v := -2) hx hb dX6_misfit_103 (by decide) ?_
  exact hE hw (Option.some.inj h) rfl dX6_misfit_105
set_option maxHeartbeats 4000000 in
set_option maxRecDepth 100000 in
theorem c_X6_foundPart (l : Launch) (K : vK) (ad : Nat → Nat) (hI : adInj 30 ad) (l1 : Int32) (σ : vSt) {r : Int32} (h : f_X6_foundPart l1 σ = some r) : MCi l yX6_foundPart (wsY yX6_foundPart cX6_foundPart 2 (some .int)) (rmF 2 20) K 30 ad (cC K ad) [.ref (ad 8), .int l1] σ r σ := by
  refine MCi_of (own := RX6) (plainFor_of_name (by decide)) hI rfl (Nat.le_of_ble_eq_true rfl) ?_
  intro p e s m args below meth c A Q hx_E hE H locs ls hw hl
  have hx := hx_E.1; have hb := hx_E.2.1; have hown := hx_E.2.2.2.1; have hts := hx_E.2.2.2.2.1
  replace hl : lv_has ls 2 [(0, .ref (ad 8)), (1, .int l1)] := hl
  unfold f_X6_foundPart at h
  refine lv_iload_n hx hb dX6_foundPart_0 rfl (lv_at hl 1 rfl) ?_
  by_cases c3 : l1 = 0
  · replace h := it_t c3 h
    refine lv_tableIn (off := 27) (tgt := 28) hx hb dX6_foundPart_1 (by rw [c3]; decide) (by rw [c3]; decide) (by rw [c3]; rfl) (by decide) ?_
    refine lv_aload_n hx hb dX6_foundPart_28 rfl (lv_at hl 0 rfl) ?_
    refine gC_8_1 hx_E hw fl_X6_33 dX6_foundPart_29 ?_
    refine gC_B_10 hx_E hw isB_6 fl_X6_140 dX6_foundPart_32 ?_
    exact hE hw (Option.some.inj h) rfl dX6_foundPart_35
  replace h := it_f c3 h
  by_cases c4 : l1 = 1
  · replace h := it_t c4 h
    refine lv_tableIn (off := 35) (tgt := 36) hx hb dX6_foundPart_1 (by rw [c4]; decide) (by rw [c4]; decide) (by rw [c4]; rfl) (by decide) ?_
    refine lv_aload_n hx hb dX6_foundPart_36 rfl (lv_at hl 0 rfl) ?_
    refine gC_8_1 hx_E hw fl_X6_33 dX6_foundPart_37 ?_
    refine gC_B_11 hx_E hw isB_6 fl_X6_227 dX6_foundPart_40 ?_
    exact hE hw (Option.some.inj h) rfl dX6_foundPart_43
  replace h := it_f c4 h
  by_cases c5 : l1 = 2
  · replace h := it_t c5 h
    refine lv_tableIn (off := 43) (tgt := 44) hx hb dX6_foundPart_1 (by rw [c5]; decide) (by rw [c5]; decide) (by rw [c5]; rfl) (by decide) ?_
    refine lv_aload_n hx hb dX6_foundPart_44 rfl (lv_at hl 0 rfl) ?_
    refine gC_8_1 hx_E hw fl_X6_33 dX6_foundPart_45 ?_
    refine gC_B_10 hx_E hw isB_6 fl_X6_140 dX6_foundPart_48 ?_
    obtain ⟨v1, k2, h⟩ := it_b h
    refine kS_i (As := [.int (gI σ 6 10)]) (rest := []) hx_E hw (c_X6_becomes l K (gI σ 6 10) k2) mi_X6_becomes sm_X6_becomes ml_X6_230 rfl ⟨⟨Nat.le_of_ble_eq_true rfl, Nat.le_of_ble_eq_true rfl⟩, rfl, rfl⟩ ⟨Nat.zero_le _, Nat.zero_le _⟩ hl.1 rfl (Nat.le_of_ble_eq_true rfl) dX6_foundPart_51 (fun H locs hw => ?_)
    exact hE hw (Option.some.inj h) rfl dX6_foundPart_54
  replace h := it_f c5 h
  refine lv_tableOut (tgt := 55) hx hb dX6_foundPart_1 (sw_out0_2 c3 c4 c5) (by decide) ?_
  refine lv_aload_n hx hb dX6_foundPart_55 rfl (lv_at hl 0 rfl) ?_
  refine gC_8_1 hx_E hw fl_X6_33 dX6_foundPart_56 ?_
  refine gC_B_12 hx_E hw isB_6 fl_X6_233 dX6_foundPart_59 ?_
  exact hE hw (Option.some.inj h) rfl dX6_foundPart_62
set_option maxHeartbeats 4000000 in
set_option maxRecDepth 100000 in
theorem c_X6_hint (l : Launch) (K : vK) (ad : Nat → Nat) (hI : adInj 30 ad) (l1 : Int32) (σ : vSt) {r : Int32} {σ' : vSt} (h : f_X6_hint l1 σ = some (r, σ')) : MCi l yX6_hint (wsY yX6_hint cX6_hint 2 (some .int)) (rmF 6 121) K 30 ad (cC K ad) [.ref (ad 8), .int l1] σ r σ' := by
  refine MCi_of (own := RX6) (plainFor_of_name (by decide)) hI rfl (Nat.le_of_ble_eq_true rfl) ?_
  intro p e s m args below meth c A Q hx_E hE H locs ls hw hl
  have hx := hx_E.1; have hb := hx_E.2.1; have hown := hx_E.2.2.2.1; have hts := hx_E.2.2.2.2.1
  replace hl : lv_has ls 2 [(0, .ref (ad 8)), (1, .int l1)] := hl
  unfold f_X6_hint at h
  refine lv_iload_n hx hb dX6_hint_0 rfl (lv_at hl 1 rfl) ?_
  refine lv_if_lt (tgt := 9) hx hb dX6_hint_1 (by decide) (fun c1 => ?_) (fun c1 => ?_)
  · replace h := it_t c1 h
    refine lv_bipush (v := -2) hx hb dX6_hint_9 (by decide) ?_
    exact hE hw (congrArg Prod.fst (Option.some.inj h)) (congrArg Prod.snd (Option.some.inj h)) dX6_hint_11
  · replace h := it_f c1 h
    refine lv_iload_n hx hb dX6_hint_4 rfl (lv_at hl 1 rfl) ?_
    refine lv_iconst (v := 3) hx hb dX6_hint_5 (by decide) ?_
    refine lv_icmp_le (tgt := 12) hx hb dX6_hint_6 (by decide) (fun c2 => ?_) (fun c2 => ?_)
    · replace h := it_t c2 h
      refine lv_aload_n hx hb dX6_hint_12 rfl (lv_at hl 0 rfl) ?_
      refine gC_8_1 hx_E hw fl_X6_33 dX6_hint_13 ?_
      obtain ⟨v3, k4, h⟩ := it_b h
      refine kV_z (As := []) (rest := []) (q := 6) hx_E hw (c_X0_fits l K 30 ad hI 6 isB_6  σ k4) mi_X0_fits mv_X0_fits ml_X6_129 (by decide) rfl rfl rfl ⟨⟨Nat.le_of_ble_eq_true rfl, Nat.le_of_ble_eq_true rfl⟩, rfl, rfl⟩ ⟨Nat.zero_le _, Nat.zero_le _⟩ hl.1 rfl (Nat.le_of_ble_eq_true rfl) dX6_hint_16 (fun z5 H locs hw => ?_)
      refine lv_if_ne (tgt := 25) hx hb dX6_hint_19 (by decide) (fun c6 => ?_) (fun c6 => ?_)
      · replace h := it_f c6 h
        refine lv_aload_n hx hb dX6_hint_25 rfl (lv_at hl 0 rfl) ?_
        refine gC_8_2 hx_E hw fl_X6_40 dX6_hint_26 ?_
        refine lv_aload_n hx hb dX6_hint_29 rfl (lv_at hl 0 rfl) ?_
        refine gC_8_1 hx_E hw fl_X6_33 dX6_hint_30 ?_
        refine lv_bipush (v := 7) hx hb dX6_hint_33 (by decide) ?_
        obtain ⟨⟨v7, σ8⟩, k9, h⟩ := it_b h
        refine kV_z (As := [.ref (ad 6), .int (7 : Int32)]) (rest := []) (q := 10) hx_E hw (c_X4_findNext l K ad hI 6 isB_6 (7 : Int32) σ k9) mi_X4_findNext mv_X4_findNext ml_X6_133 (by decide) rfl rfl rfl ⟨⟨Nat.le_of_ble_eq_true rfl, Nat.le_of_ble_eq_true rfl⟩, rfl, rfl⟩ ⟨Nat.zero_le _, Nat.zero_le _⟩ hl.1 rfl (Nat.le_of_ble_eq_true rfl) dX6_hint_35 (fun z10 H locs hw => ?_)
        refine lv_if_eq (tgt := 49) hx hb dX6_hint_38 (by decide) (fun c11 => ?_) (fun c11 => ?_)
        · replace h := it_t c11 h
          refine lv_iconst (v := -1) hx hb dX6_hint_49 (by decide) ?_
          exact hE hw (congrArg Prod.fst (Option.some.inj h)) (congrArg Prod.snd (Option.some.inj h)) dX6_hint_50
        · replace h := it_f c11 h
          refine lv_aload_n hx hb dX6_hint_41 rfl (lv_at hl 0 rfl) ?_
          refine lv_iload_n hx hb dX6_hint_42 rfl (lv_at hl 1 rfl) ?_
          obtain ⟨v12, k13, h⟩ := it_b h
          refine kV_i (As := [.int l1]) (rest := []) (q := 8) hx_E hw (c_X6_foundPart l K ad hI  l1 σ8 k13) mi_X6_foundPart mv_X6_foundPart ml_X6_174 (by decide) rfl rfl rfl ⟨⟨Nat.le_of_ble_eq_true rfl, Nat.le_of_ble_eq_true rfl⟩, rfl, rfl⟩ ⟨Nat.zero_le _, Nat.zero_le _⟩ hl.1 rfl (Nat.le_of_ble_eq_true rfl) dX6_hint_43 (fun H locs hw => ?_)
          refine lv_goto (tgt := 50) hx hb dX6_hint_46 (by decide) ?_
          exact hE hw (congrArg Prod.fst (Option.some.inj h)) (congrArg Prod.snd (Option.some.inj h)) dX6_hint_50
      · replace h := it_t c6 h
        refine lv_bipush (v := -3) hx hb dX6_hint_22 (by decide) ?_
        exact hE hw (congrArg Prod.fst (Option.some.inj h)) (congrArg Prod.snd (Option.some.inj h)) dX6_hint_24
    · replace h := it_f c2 h
      refine lv_bipush (v := -2) hx hb dX6_hint_9 (by decide) ?_
      exact hE hw (congrArg Prod.fst (Option.some.inj h)) (congrArg Prod.snd (Option.some.inj h)) dX6_hint_11
set_option maxHeartbeats 4000000 in
set_option maxRecDepth 100000 in
theorem c_X6_way (l : Launch) (K : vK) (ad : Nat → Nat) (hI : adInj 30 ad) (l1 : Int32) (l2 : Int32) (σ : vSt) {r : Int32} (h : f_X6_way l1 l2 σ = some r) : MCi l yX6_way (wsY yX6_way cX6_way 5 (some .int)) (rmF 3 42) K 30 ad (cC K ad) [.ref (ad 8), .int l1, .int l2] σ r σ := by
  refine MCi_of (own := RX6) (plainFor_of_name (by decide)) hI rfl (Nat.le_of_ble_eq_true rfl) ?_
  intro p e s m args below meth c A Q hx_E hE H locs ls hw hl
  have hx := hx_E.1; have hb := hx_E.2.1; have hown := hx_E.2.2.2.1; have hts := hx_E.2.2.2.2.1
  replace hl : lv_has ls 5 [(0, .ref (ad 8)), (1, .int l1), (2, .int l2)] := hl
  unfold f_X6_way at h
  refine lv_aload_n hx hb dX6_way_0 rfl (lv_at hl 0 rfl) ?_
  refine gC_8_0 hx_E hw fl_X6_27 dX6_way_1 ?_
  refine lv_iload_n hx hb dX6_way_4 rfl (lv_at hl 1 rfl) ?_
  obtain ⟨v1, k2, h⟩ := it_b h
  refine kV_z (As := [.int l1]) (rest := []) (q := 0) hx_E hw (c_X1_hasEdge l K 30 (by decide) ad hI  l1 σ k2) mi_X1_hasEdge mv_X1_hasEdge ml_X6_115 (by decide) rfl rfl rfl ⟨⟨Nat.le_of_ble_eq_true rfl, Nat.le_of_ble_eq_true rfl⟩, rfl, rfl⟩ ⟨Nat.zero_le _, Nat.zero_le _⟩ hl.1 rfl (Nat.le_of_ble_eq_true rfl) dX6_way_5 (fun z3 H locs hw => ?_)
  refine lv_if_eq (tgt := 20) hx hb dX6_way_8 (by decide) (fun c4 => ?_) (fun c4 => ?_)
  · replace h := it_t c4 h
    refine lv_bipush (v := -2) hx hb dX6_way_20 (by decide) ?_
    exact hE hw (Option.some.inj h) rfl dX6_way_22
  · replace h := it_f c4 h
    refine lv_iload_n hx hb dX6_way_11 rfl (lv_at hl 2 rfl) ?_
    refine lv_if_lt (tgt := 20) hx hb dX6_way_12 (by decide) (fun c5 => ?_) (fun c5 => ?_)
    · replace h := it_t c5 h
      refine lv_bipush (v := -2) hx hb dX6_way_20 (by decide) ?_
      exact hE hw (Option.some.inj h) rfl dX6_way_22
    · replace h := it_f c5 h
      refine lv_iload_n hx hb dX6_way_15 rfl (lv_at hl 2 rfl) ?_
      refine lv_iconst (v := 2) hx hb dX6_way_16 (by decide) ?_
      refine lv_icmp_le (tgt := 23) hx hb dX6_way_17 (by decide) (fun c6 => ?_) (fun c6 => ?_)
      · replace h := it_t c6 h
        refine lv_aload_n hx hb dX6_way_23 rfl (lv_at hl 0 rfl) ?_
        refine gC_8_1 hx_E hw fl_X6_33 dX6_way_24 ?_
        refine lv_lconst (v := 1) hx hb dX6_way_27 (by decide) ?_
        refine lv_iload_n hx hb dX6_way_28 rfl (lv_at hl 1 rfl) ?_
        refine lv_lshl (v := (o_lshl (1 : Int64) l1)) hx hb dX6_way_29 rfl ?_
        obtain ⟨v7, k8, h⟩ := it_b h
        refine kV_l (As := [.long (o_lshl (1 : Int64) l1)]) (rest := []) (q := 6) hx_E hw (c_X0_wayOf l K 30 ad hI 6 isB_6 (o_lshl (1 : Int64) l1) σ k8) mi_X0_wayOf mv_X0_wayOf ml_X6_177 (by decide) rfl rfl rfl ⟨⟨Nat.le_of_ble_eq_true rfl, Nat.le_of_ble_eq_true rfl⟩, rfl, rfl⟩ ⟨Nat.zero_le _, Nat.zero_le _⟩ hl.1 rfl (Nat.le_of_ble_eq_true rfl) dX6_way_30 (fun H locs hw => ?_)
        refine lv_lstore_n (lv' := [(3, .long v7), (0, .ref (ad 8)), (1, .int l1), (2, .int l2)]) hx hb dX6_way_33 rfl hl (by decide) rfl (fun ls hl => ?_)
        refine lv_lload_n hx hb dX6_way_34 rfl (lv_at hl 0 rfl) ?_
        refine lv_lconst (v := 0) hx hb dX6_way_35 (by decide) ?_
        refine W.lcmp hx hb dX6_way_36 ?_
        refine lv_if_ne (tgt := 42) hx hb dX6_way_37 (by decide) (fun c9 => ?_) (fun c9 => ?_)
        · replace h := it_f c9 h
          refine lv_iload_n hx hb dX6_way_42 rfl (lv_at hl 3 rfl) ?_
          refine lv_if_ne (tgt := 51) hx hb dX6_way_43 (by decide) (fun c10 => ?_) (fun c10 => ?_)
          · replace h := it_f c10 h
            refine lv_iload_n hx hb dX6_way_51 rfl (lv_at hl 3 rfl) ?_
            refine lv_iconst (v := 1) hx hb dX6_way_52 (by decide) ?_
            refine lv_icmp_ne (tgt := 61) hx hb dX6_way_53 (by decide) (fun c11 => ?_) (fun c11 => ?_)
            · replace h := it_f c11 h
              refine lv_aload_n hx hb dX6_way_61 rfl (lv_at hl 1 rfl) ?_
              refine gC_8_1 hx_E hw fl_X6_33 dX6_way_62 ?_
              refine lv_lload_n hx hb dX6_way_65 rfl (lv_at hl 0 rfl) ?_
              obtain ⟨v12, k13, h⟩ := it_b h
              refine kV_z (As := [.long v7]) (rest := []) (q := 6) hx_E hw (c_X0_isRing l K 30 ad hI 6 isB_6 v7 σ k13) mi_X0_isRing mv_X0_isRing ml_X6_181 (by decide) rfl rfl rfl ⟨⟨Nat.le_of_ble_eq_true rfl, Nat.le_of_ble_eq_true rfl⟩, rfl, rfl⟩ ⟨Nat.zero_le _, Nat.zero_le _⟩ hl.1 rfl (Nat.le_of_ble_eq_true rfl) dX6_way_66 (fun z14 H locs hw => ?_)
              refine lv_if_eq (tgt := 76) hx hb dX6_way_69 (by decide) (fun c15 => ?_) (fun c15 => ?_)
              · replace h := it_t c15 h
                refine lv_iconst (v := 0) hx hb dX6_way_76 (by decide) ?_
                exact hE hw (Option.some.inj h) rfl dX6_way_77
              · replace h := it_f c15 h
                refine lv_iconst (v := 1) hx hb dX6_way_72 (by decide) ?_
                refine lv_goto (tgt := 77) hx hb dX6_way_73 (by decide) ?_
                exact hE hw (Option.some.inj h) rfl dX6_way_77
            · replace h := it_t c11 h
              refine lv_lload_n hx hb dX6_way_56 rfl (lv_at hl 0 rfl) ?_
              obtain ⟨v16, k17, h⟩ := it_b h
              refine kS_i (As := [.long v7]) (rest := []) hx_E hw (c_X6_leastOf l K v7 k17) mi_X6_leastOf sm_X6_leastOf ml_X6_159 rfl ⟨⟨Nat.le_of_ble_eq_true rfl, Nat.le_of_ble_eq_true rfl⟩, rfl, rfl⟩ ⟨Nat.zero_le _, Nat.zero_le _⟩ hl.1 rfl (Nat.le_of_ble_eq_true rfl) dX6_way_57 (fun H locs hw => ?_)
              exact hE hw (Option.some.inj h) rfl dX6_way_60
          · replace h := it_t c10 h
            refine lv_lload_n hx hb dX6_way_46 rfl (lv_at hl 0 rfl) ?_
            obtain ⟨v18, k19, h⟩ := it_b h
            refine kS_i (As := [.long v7]) (rest := []) hx_E hw (c_J13_bitCount_95d88 l K v7 k19) mi_J13_bitCount_95d88 sm_J13_bitCount_95d88 ml_X6_123 rfl ⟨⟨Nat.le_of_ble_eq_true rfl, Nat.le_of_ble_eq_true rfl⟩, rfl, rfl⟩ ⟨Nat.zero_le _, Nat.zero_le _⟩ hl.1 rfl (Nat.le_of_ble_eq_true rfl) dX6_way_47 (fun H locs hw => ?_)
            exact hE hw (Option.some.inj h) rfl dX6_way_50
        · replace h := it_t c9 h
          refine lv_iconst (v := -1) hx hb dX6_way_40 (by decide) ?_
          exact hE hw (Option.some.inj h) rfl dX6_way_41
      · replace h := it_f c6 h
        refine lv_bipush (v := -2) hx hb dX6_way_20 (by decide) ?_
        exact hE hw (Option.some.inj h) rfl dX6_way_22
set_option maxHeartbeats 4000000 in
set_option maxRecDepth 100000 in
theorem c_X3_push (l : Launch) (K : vK) (ad : Nat → Nat) (hI : adInj 30 ad) (l1 : Int64) (l3 : Int64) (σ : vSt) {σ' : vSt} (h : f_X3_push l1 l3 σ = some σ') : MCv l yX3_push (wsY yX3_push cX3_push 5 none) (rmF 1 0) K 30 ad (cC K ad) [.ref (ad 15), .long l1, .long l3] σ σ' := by
  refine MCv_of (own := RX3) (plainFor_of_name (by decide)) hI rfl (Nat.le_of_ble_eq_true rfl) ?_
  intro p e s m args below meth c A Q hx_E hE H locs ls hw hl
  have hx := hx_E.1; have hb := hx_E.2.1; have hown := hx_E.2.2.2.1; have hts := hx_E.2.2.2.2.1
  replace hl : lv_has ls 5 [(0, .ref (ad 15)), (1, .long l1), (3, .long l3)] := hl
  unfold f_X3_push at h
  refine lv_aload_n hx hb dX3_push_0 rfl (lv_at hl 0 rfl) ?_
  refine gC_15_3 hx_E hw fl_X3_27 dX3_push_1 ?_
  refine lv_if_lt (tgt := 61) hx hb dX3_push_4 (by decide) (fun c1 => ?_) (fun c1 => ?_)
  · replace h := it_t c1 h
    exact hE hw (Option.some.inj h) dX3_push_61
  · replace h := it_f c1 h
    refine lv_aload_n hx hb dX3_push_7 rfl (lv_at hl 0 rfl) ?_
    refine gC_15_3 hx_E hw fl_X3_27 dX3_push_8 ?_
    refine lv_aload_n hx hb dX3_push_11 rfl (lv_at hl 0 rfl) ?_
    refine gC_15_1 hx_E hw fl_X3_9 dX3_push_12 ?_
    refine alC_18 hx_E hw dX3_push_15 ?_
    refine lv_icmp_ge (tgt := 61) hx hb dX3_push_16 (by decide) (fun c2 => ?_) (fun c2 => ?_)
    · replace h := it_t c2 h
      exact hE hw (Option.some.inj h) dX3_push_61
    · replace h := it_f c2 h
      refine lv_aload_n hx hb dX3_push_19 rfl (lv_at hl 0 rfl) ?_
      refine gC_15_3 hx_E hw fl_X3_27 dX3_push_20 ?_
      refine lv_aload_n hx hb dX3_push_23 rfl (lv_at hl 0 rfl) ?_
      refine gC_15_2 hx_E hw fl_X3_15 dX3_push_24 ?_
      refine alC_19 hx_E hw dX3_push_27 ?_
      refine lv_icmp_ge (tgt := 61) hx hb dX3_push_28 (by decide) (fun c3 => ?_) (fun c3 => ?_)
      · replace h := it_t c3 h
        exact hE hw (Option.some.inj h) dX3_push_61
      · replace h := it_f c3 h
        refine lv_aload_n hx hb dX3_push_31 rfl (lv_at hl 0 rfl) ?_
        refine gC_15_1 hx_E hw fl_X3_9 dX3_push_32 ?_
        refine lv_aload_n hx hb dX3_push_35 rfl (lv_at hl 0 rfl) ?_
        refine gC_15_3 hx_E hw fl_X3_27 dX3_push_36 ?_
        refine lv_lload_n hx hb dX3_push_39 rfl (lv_at hl 1 rfl) ?_
        obtain ⟨g4, h⟩ := it_g h
        refine sC_18 hx_E hw g4 dX3_push_40 (fun H locs hw => ?_)
        refine lv_aload_n hx hb dX3_push_41 rfl (lv_at hl 0 rfl) ?_
        refine gC_15_2 hx_E hw fl_X3_15 dX3_push_42 ?_
        refine lv_aload_n hx hb dX3_push_45 rfl (lv_at hl 0 rfl) ?_
        refine gC_15_3 hx_E hw fl_X3_27 dX3_push_46 ?_
        refine lv_lload_n hx hb dX3_push_49 rfl (lv_at hl 2 rfl) ?_
        obtain ⟨g5, h⟩ := it_g h
        refine sC_19 hx_E hw g5 dX3_push_50 (fun H locs hw => ?_)
        refine lv_aload_n hx hb dX3_push_51 rfl (lv_at hl 0 rfl) ?_
        refine lv_dup hx hb dX3_push_52 rfl ?_
        refine gC_15_3 hx_E hw fl_X3_27 dX3_push_53 ?_
        refine lv_iconst (v := 1) hx hb dX3_push_56 (by decide) ?_
        refine lv_iadd hx hb dX3_push_57 ?_
        refine pC_15_3 hx_E hw fl_X3_27 dX3_push_58 (fun H locs hw => ?_)
        exact hE hw (Option.some.inj h) dX3_push_61
set_option maxHeartbeats 4000000 in
set_option maxRecDepth 100000 in
theorem c_X3_goOn (l : Launch) (K : vK) (ad : Nat → Nat) (hI : adInj 30 ad) (σ : vSt) {σ' : vSt} (h : f_X3_goOn σ = some σ') : MCv l yX3_goOn (wsY yX3_goOn cX3_goOn 3 none) (rmF 3 40) K 30 ad (cC K ad) [.ref (ad 15)] σ σ' := by
  refine MCv_of (own := RX3) (plainFor_of_name (by decide)) hI rfl (Nat.le_of_ble_eq_true rfl) ?_
  intro p e s m args below meth c A Q hx_E hE H locs ls hw hl
  have hx := hx_E.1; have hb := hx_E.2.1; have hown := hx_E.2.2.2.1; have hts := hx_E.2.2.2.2.1
  replace hl : lv_has ls 3 [(0, .ref (ad 15))] := hl
  unfold f_X3_goOn at h
  refine lv_aload_n hx hb dX3_goOn_0 rfl (lv_at hl 0 rfl) ?_
  refine gC_15_0 hx_E hw fl_X3_23 dX3_goOn_1 ?_
  obtain ⟨v1, k2, h⟩ := it_b h
  refine kV_z (As := []) (rest := []) (q := 16) hx_E hw (c_X0_fits l K 30 ad hI 16 isB_16  σ k2) mi_X0_fits mv_X0_fits ml_X3_64 (by decide) rfl rfl rfl ⟨⟨Nat.le_of_ble_eq_true rfl, Nat.le_of_ble_eq_true rfl⟩, rfl, rfl⟩ ⟨Nat.zero_le _, Nat.zero_le _⟩ hl.1 rfl (Nat.le_of_ble_eq_true rfl) dX3_goOn_4 (fun z3 H locs hw => ?_)
  refine lv_if_ne (tgt := 11) hx hb dX3_goOn_7 (by decide) (fun c4 => ?_) (fun c4 => ?_)
  · replace h := it_f c4 h
    refine lv_aload_n hx hb dX3_goOn_11 rfl (lv_at hl 0 rfl) ?_
    refine gC_15_0 hx_E hw fl_X3_23 dX3_goOn_12 ?_
    obtain ⟨v5, k6, h⟩ := it_b h
    refine kV_z (As := []) (rest := []) (q := 16) hx_E hw (c_X0_finished l K 30 ad hI 16 isB_16  σ k6) mi_X0_finished mv_X0_finished ml_X3_68 (by decide) rfl rfl rfl ⟨⟨Nat.le_of_ble_eq_true rfl, Nat.le_of_ble_eq_true rfl⟩, rfl, rfl⟩ ⟨Nat.zero_le _, Nat.zero_le _⟩ hl.1 rfl (Nat.le_of_ble_eq_true rfl) dX3_goOn_15 (fun z7 H locs hw => ?_)
    refine lv_if_eq (tgt := 50) hx hb dX3_goOn_18 (by decide) (fun c8 => ?_) (fun c8 => ?_)
    · replace h := it_t c8 h
      refine lv_aload_n hx hb dX3_goOn_50 rfl (lv_at hl 0 rfl) ?_
      refine gC_15_0 hx_E hw fl_X3_23 dX3_goOn_51 ?_
      refine gC_B_3 hx_E hw isB_16 fl_X3_44 dX3_goOn_54 ?_
      refine lv_aload_n hx hb dX3_goOn_57 rfl (lv_at hl 0 rfl) ?_
      refine gC_15_0 hx_E hw fl_X3_23 dX3_goOn_58 ?_
      refine gC_B_3 hx_E hw isB_16 fl_X3_44 dX3_goOn_61 ?_
      refine lv_lneg hx hb dX3_goOn_64 ?_
      refine lv_land hx hb dX3_goOn_65 ?_
      obtain ⟨v9, e_v9, h⟩ := it_b h
      refine lt_topl (Option.some.inj e_v9) ?_
      refine lv_lstore_n (lv' := [(1, .long v9), (0, .ref (ad 15))]) hx hb dX3_goOn_66 rfl hl (by decide) rfl (fun ls hl => ?_)
      refine lv_lload_n hx hb dX3_goOn_67 rfl (lv_at hl 0 rfl) ?_
      refine lv_lconst (v := 0) hx hb dX3_goOn_68 (by decide) ?_
      refine W.lcmp hx hb dX3_goOn_69 ?_
      refine lv_if_eq (tgt := 123) hx hb dX3_goOn_70 (by decide) (fun c10 => ?_) (fun c10 => ?_)
      · replace h := it_t c10 h
        exact hE hw (Option.some.inj h) dX3_goOn_123
      · replace h := it_f c10 h
        refine lv_aload_n hx hb dX3_goOn_73 rfl (lv_at hl 1 rfl) ?_
        refine lv_aload_n hx hb dX3_goOn_74 rfl (lv_at hl 1 rfl) ?_
        refine gC_15_0 hx_E hw fl_X3_23 dX3_goOn_75 ?_
        refine gC_B_2 hx_E hw isB_16 fl_X3_41 dX3_goOn_78 ?_
        refine lv_aload_n hx hb dX3_goOn_81 rfl (lv_at hl 1 rfl) ?_
        refine gC_15_0 hx_E hw fl_X3_23 dX3_goOn_82 ?_
        refine gC_B_3 hx_E hw isB_16 fl_X3_44 dX3_goOn_85 ?_
        refine lv_lload_n hx hb dX3_goOn_88 rfl (lv_at hl 0 rfl) ?_
        refine lv_ldc2 (v := -1) hx hb hown (hts _ kl_X3_71) dX3_goOn_89 ?_
        refine lv_lxor hx hb dX3_goOn_92 ?_
        refine lv_land hx hb dX3_goOn_93 ?_
        obtain ⟨σ11, k12, h⟩ := it_b h
        refine kV_v (As := [.long (gL σ 16 2), .long ((gL σ 16 3) &&& (v9 ^^^ (-1 : Int64)))]) (rest := []) (q := 15) hx_E hw (c_X3_push l K ad hI  (gL σ 16 2) ((gL σ 16 3) &&& (v9 ^^^ (-1 : Int64))) σ k12) mi_X3_push mv_X3_push ml_X3_47 (by decide) rfl rfl rfl ⟨⟨Nat.le_of_ble_eq_true rfl, Nat.le_of_ble_eq_true rfl⟩, rfl, rfl⟩ ⟨Nat.zero_le _, Nat.zero_le _⟩ hl.1 rfl (Nat.le_of_ble_eq_true rfl) dX3_goOn_94 (fun H locs hw => ?_)
        refine lv_aload_n hx hb dX3_goOn_97 rfl (lv_at hl 1 rfl) ?_
        refine lv_aload_n hx hb dX3_goOn_98 rfl (lv_at hl 1 rfl) ?_
        refine gC_15_0 hx_E hw fl_X3_23 dX3_goOn_99 ?_
        refine gC_B_2 hx_E hw isB_16 fl_X3_41 dX3_goOn_102 ?_
        refine lv_lload_n hx hb dX3_goOn_105 rfl (lv_at hl 0 rfl) ?_
        refine lv_lor hx hb dX3_goOn_106 ?_
        refine lv_aload_n hx hb dX3_goOn_107 rfl (lv_at hl 1 rfl) ?_
        refine gC_15_0 hx_E hw fl_X3_23 dX3_goOn_108 ?_
        refine gC_B_3 hx_E hw isB_16 fl_X3_44 dX3_goOn_111 ?_
        refine lv_lload_n hx hb dX3_goOn_114 rfl (lv_at hl 0 rfl) ?_
        refine lv_ldc2 (v := -1) hx hb hown (hts _ kl_X3_71) dX3_goOn_115 ?_
        refine lv_lxor hx hb dX3_goOn_118 ?_
        refine lv_land hx hb dX3_goOn_119 ?_
        obtain ⟨σ13, k14, h⟩ := it_b h
        refine kV_v (As := [.long ((gL σ11 16 2) ||| v9), .long ((gL σ11 16 3) &&& (v9 ^^^ (-1 : Int64)))]) (rest := []) (q := 15) hx_E hw (c_X3_push l K ad hI  ((gL σ11 16 2) ||| v9) ((gL σ11 16 3) &&& (v9 ^^^ (-1 : Int64))) σ11 k14) mi_X3_push mv_X3_push ml_X3_47 (by decide) rfl rfl rfl ⟨⟨Nat.le_of_ble_eq_true rfl, Nat.le_of_ble_eq_true rfl⟩, rfl, rfl⟩ ⟨Nat.zero_le _, Nat.zero_le _⟩ hl.1 rfl (Nat.le_of_ble_eq_true rfl) dX3_goOn_120 (fun H locs hw => ?_)
        exact hE hw (Option.some.inj h) dX3_goOn_123
    · replace h := it_f c8 h
      refine lv_aload_n hx hb dX3_goOn_21 rfl (lv_at hl 0 rfl) ?_
      refine gC_15_4 hx_E hw fl_X3_31 dX3_goOn_22 ?_
      refine lv_if_ne (tgt := 39) hx hb dX3_goOn_25 (by decide) (fun c15 => ?_) (fun c15 => ?_)
      · replace h := it_f c15 h
        refine lv_aload_n hx hb dX3_goOn_39 rfl (lv_at hl 0 rfl) ?_
        refine lv_dup hx hb dX3_goOn_40 rfl ?_
        refine gC_15_4 hx_E hw fl_X3_31 dX3_goOn_41 ?_
        refine lv_iconst (v := 1) hx hb dX3_goOn_44 (by decide) ?_
        refine lv_iadd hx hb dX3_goOn_45 ?_
        refine pC_15_4 hx_E hw fl_X3_31 dX3_goOn_46 (fun H locs hw => ?_)
        exact hE hw (Option.some.inj h) dX3_goOn_49
      · replace h := it_t c15 h
        refine lv_aload_n hx hb dX3_goOn_28 rfl (lv_at hl 0 rfl) ?_
        refine lv_aload_n hx hb dX3_goOn_29 rfl (lv_at hl 0 rfl) ?_
        refine gC_15_0 hx_E hw fl_X3_23 dX3_goOn_30 ?_
        refine gC_B_2 hx_E hw isB_16 fl_X3_41 dX3_goOn_33 ?_
        refine pC_15_6 hx_E hw fl_X3_37 dX3_goOn_36 (fun H locs hw => ?_)
        refine lv_aload_n hx hb dX3_goOn_39 rfl (lv_at hl 0 rfl) ?_
        refine lv_dup hx hb dX3_goOn_40 rfl ?_
        refine gC_15_4 hx_E hw fl_X3_31 dX3_goOn_41 ?_
        refine lv_iconst (v := 1) hx hb dX3_goOn_44 (by decide) ?_
        refine lv_iadd hx hb dX3_goOn_45 ?_
        refine pC_15_4 hx_E hw fl_X3_31 dX3_goOn_46 (fun H locs hw => ?_)
        exact hE hw (Option.some.inj h) dX3_goOn_49
  · replace h := it_t c4 h
    exact hE hw (Option.some.inj h) dX3_goOn_10
set_option maxHeartbeats 4000000 in
set_option maxRecDepth 100000 in
theorem c_X3_run (l : Launch) (K : vK) (ad : Nat → Nat) (hI : adInj 30 ad) (l2 : Int32) (σ : vSt) {σ' : vSt} (h : f_X3_run l2 σ = some σ') : MCv l yX3_run (wsY yX3_run cX3_run 4 none) (rmF 5 96) K 30 ad (cC K ad) [.ref (ad 15), .ref (ad 6), .int l2] σ σ' := by
  refine MCv_of (own := RX3) (plainFor_of_name (by decide)) hI rfl (Nat.le_of_ble_eq_true rfl) ?_
  intro p e s m args below meth c A Q hx_E hE H locs ls hw hl
  have hx := hx_E.1; have hb := hx_E.2.1; have hown := hx_E.2.2.2.1; have hts := hx_E.2.2.2.2.1
  replace hl : lv_has ls 4 [(0, .ref (ad 15)), (1, .ref (ad 6)), (2, .int l2)] := hl
  unfold f_X3_run at h
  refine lv_aload_n hx hb dX3_run_0 rfl (lv_at hl 0 rfl) ?_
  refine lv_iconst (v := 0) hx hb dX3_run_1 (by decide) ?_
  refine pC_15_3 hx_E hw fl_X3_27 dX3_run_2 (fun H locs hw => ?_)
  refine lv_aload_n hx hb dX3_run_5 rfl (lv_at hl 0 rfl) ?_
  refine lv_iconst (v := 0) hx hb dX3_run_6 (by decide) ?_
  refine pC_15_4 hx_E hw fl_X3_31 dX3_run_7 (fun H locs hw => ?_)
  refine lv_aload_n hx hb dX3_run_10 rfl (lv_at hl 0 rfl) ?_
  refine lv_iconst (v := 0) hx hb dX3_run_11 (by decide) ?_
  refine pC_15_5 hx_E hw fl_X3_34 dX3_run_12 (fun H locs hw => ?_)
  refine lv_aload_n hx hb dX3_run_15 rfl (lv_at hl 0 rfl) ?_
  refine lv_lconst (v := 0) hx hb dX3_run_16 (by decide) ?_
  refine pC_15_6 hx_E hw fl_X3_37 dX3_run_17 (fun H locs hw => ?_)
  refine lv_aload_n hx hb dX3_run_20 rfl (lv_at hl 0 rfl) ?_
  refine lv_aload_n hx hb dX3_run_21 rfl (lv_at hl 1 rfl) ?_
  refine gC_B_2 hx_E hw isB_6 fl_X3_41 dX3_run_22 ?_
  refine lv_aload_n hx hb dX3_run_25 rfl (lv_at hl 1 rfl) ?_
  refine gC_B_3 hx_E hw isB_6 fl_X3_44 dX3_run_26 ?_
  obtain ⟨σ1, k2, h⟩ := it_b h
  refine kV_v (As := [.long (gL (sL (sI (sI (sI σ 15 3 (0 : Int32)) 15 4 (0 : Int32)) 15 5 (0 : Int32)) 15 6 (0 : Int64)) 6 2), .long (gL (sL (sI (sI (sI σ 15 3 (0 : Int32)) 15 4 (0 : Int32)) 15 5 (0 : Int32)) 15 6 (0 : Int64)) 6 3)]) (rest := []) (q := 15) hx_E hw (c_X3_push l K ad hI  (gL (sL (sI (sI (sI σ 15 3 (0 : Int32)) 15 4 (0 : Int32)) 15 5 (0 : Int32)) 15 6 (0 : Int64)) 6 2) (gL (sL (sI (sI (sI σ 15 3 (0 : Int32)) 15 4 (0 : Int32)) 15 5 (0 : Int32)) 15 6 (0 : Int64)) 6 3) (sL (sI (sI (sI σ 15 3 (0 : Int32)) 15 4 (0 : Int32)) 15 5 (0 : Int32)) 15 6 (0 : Int64)) k2) mi_X3_push mv_X3_push ml_X3_47 (by decide) rfl rfl rfl ⟨⟨Nat.le_of_ble_eq_true rfl, Nat.le_of_ble_eq_true rfl⟩, rfl, rfl⟩ ⟨Nat.zero_le _, Nat.zero_le _⟩ hl.1 rfl (Nat.le_of_ble_eq_true rfl) dX3_run_29 (fun H locs hw => ?_)
  refine lv_iconst (v := 0) hx hb dX3_run_32 (by decide) ?_
  refine lv_istore_n (lv' := [(3, .int (0 : Int32)), (0, .ref (ad 15)), (1, .ref (ad 6)), (2, .int l2)]) hx hb dX3_run_33 rfl hl (by decide) rfl (fun ls hl => ?_)
  obtain ⟨φ8, h9, h_φ8⟩ := it_b h
  have hJ7 : ∀ (σ5 : vSt), σ5 = φ8 → ∀ (H : Heap) (locs : List Loc) (ls : Array Slot), PW K 30 ad (cC K ad) A s.heap σ5 H locs → lv_has ls 4 [(0, .ref (ad 15)), (2, .int l2)] → W p l e (rmF 5 96) s m args below meth c H locs 0 0 Q (F0 m 118 ls []) := by
    intro σ5 e9 H locs ls hw hl
    subst e9
    replace h := h_φ8
    refine lv_aload_n hx hb dX3_run_118 rfl (lv_at hl 0 rfl) ?_
    refine lv_aload_n hx hb dX3_run_119 rfl (lv_at hl 0 rfl) ?_
    refine gC_15_3 hx_E hw fl_X3_27 dX3_run_120 ?_
    refine lv_if_le (tgt := 138) hx hb dX3_run_123 (by decide) (fun c20 => ?_) (fun c20 => ?_)
    · replace h := it_t c20 h
      refine lv_iconst (v := 0) hx hb dX3_run_138 (by decide) ?_
      refine pC_15_7 hx_E hw (Or.inl rfl) fl_X3_60 dX3_run_139 (fun H locs hw => ?_)
      exact hE hw (Option.some.inj h) dX3_run_142
    · replace h := it_f c20 h
      refine lv_aload_n hx hb dX3_run_126 rfl (lv_at hl 0 rfl) ?_
      refine gC_15_4 hx_E hw fl_X3_31 dX3_run_127 ?_
      refine lv_iload_n hx hb dX3_run_130 rfl (lv_at hl 1 rfl) ?_
      refine lv_icmp_ge (tgt := 138) hx hb dX3_run_131 (by decide) (fun c21 => ?_) (fun c21 => ?_)
      · replace h := it_t c21 h
        refine lv_iconst (v := 0) hx hb dX3_run_138 (by decide) ?_
        refine pC_15_7 hx_E hw (Or.inl rfl) fl_X3_60 dX3_run_139 (fun H locs hw => ?_)
        exact hE hw (Option.some.inj h) dX3_run_142
      · replace h := it_f c21 h
        refine lv_iconst (v := 1) hx hb dX3_run_134 (by decide) ?_
        refine lv_goto (tgt := 139) hx hb dX3_run_135 (by decide) ?_
        refine pC_15_7 hx_E hw (Or.inr rfl) fl_X3_60 dX3_run_139 (fun H locs hw => ?_)
        exact hE hw (Option.some.inj h) dX3_run_142
  have hL6 : ∀ (n9 : Nat) (v3 : Int32) (σ4 : vSt), ∀ (H : Heap) (locs : List Loc) (ls : Array Slot), f_X3_run_34 l2 n9 v3 σ4 = some φ8 → PW K 30 ad (cC K ad) A s.heap σ4 H locs → lv_has ls 4 [(0, .ref (ad 15)), (2, .int l2), (3, .int v3)] → W p l e (rmF 5 96) s m args below meth c H locs 0 0 Q (F0 m 34 ls []) := by
    intro n9
    induction n9 with
    | zero => intro v3 σ4 H locs ls h hw hl; rw [f_X3_run_34.eq_1] at h; exact it_n h
    | succ n9 ih =>
      intro v3 σ4 H locs ls h hw hl
      rw [f_X3_run_34.eq_2] at h
      refine lv_iload_n hx hb dX3_run_34 rfl (lv_at hl 2 rfl) ?_
      refine lv_sipush (v := 200) hx hb dX3_run_35 (by decide) ?_
      refine lv_icmp_ge (tgt := 118) hx hb dX3_run_38 (by decide) (fun c9 => ?_) (fun c9 => ?_)
      · replace h := it_t c9 h
        have e9 := Option.some.inj h
        subst e9
        exact hJ7 _ rfl  H locs ls hw (lv_sub hl [0, 1] rfl)
      · replace h := it_f c9 h
        refine lv_aload_n hx hb dX3_run_41 rfl (lv_at hl 0 rfl) ?_
        refine gC_15_3 hx_E hw fl_X3_27 dX3_run_42 ?_
        refine lv_if_le (tgt := 118) hx hb dX3_run_45 (by decide) (fun c10 => ?_) (fun c10 => ?_)
        · replace h := it_t c10 h
          have e9 := Option.some.inj h
          subst e9
          exact hJ7 _ rfl  H locs ls hw (lv_sub hl [0, 1] rfl)
        · replace h := it_f c10 h
          refine lv_aload_n hx hb dX3_run_48 rfl (lv_at hl 0 rfl) ?_
          refine gC_15_4 hx_E hw fl_X3_31 dX3_run_49 ?_
          refine lv_iload_n hx hb dX3_run_52 rfl (lv_at hl 1 rfl) ?_
          refine lv_icmp_ge (tgt := 118) hx hb dX3_run_53 (by decide) (fun c11 => ?_) (fun c11 => ?_)
          · replace h := it_t c11 h
            have e9 := Option.some.inj h
            subst e9
            exact hJ7 _ rfl  H locs ls hw (lv_sub hl [0, 1] rfl)
          · replace h := it_f c11 h
            refine lv_aload_n hx hb dX3_run_56 rfl (lv_at hl 0 rfl) ?_
            refine lv_dup hx hb dX3_run_57 rfl ?_
            refine gC_15_5 hx_E hw fl_X3_34 dX3_run_58 ?_
            refine lv_iconst (v := 1) hx hb dX3_run_61 (by decide) ?_
            refine lv_iadd hx hb dX3_run_62 ?_
            refine pC_15_5 hx_E hw fl_X3_34 dX3_run_63 (fun H locs hw => ?_)
            refine lv_aload_n hx hb dX3_run_66 rfl (lv_at hl 0 rfl) ?_
            refine lv_dup hx hb dX3_run_67 rfl ?_
            refine gC_15_3 hx_E hw fl_X3_27 dX3_run_68 ?_
            refine lv_iconst (v := 1) hx hb dX3_run_71 (by decide) ?_
            refine lv_isub hx hb dX3_run_72 ?_
            refine pC_15_3 hx_E hw fl_X3_27 dX3_run_73 (fun H locs hw => ?_)
            refine lv_aload_n hx hb dX3_run_76 rfl (lv_at hl 0 rfl) ?_
            refine gC_15_0 hx_E hw fl_X3_23 dX3_run_77 ?_
            refine lv_aload_n hx hb dX3_run_80 rfl (lv_at hl 0 rfl) ?_
            refine gC_15_1 hx_E hw fl_X3_9 dX3_run_81 ?_
            refine lv_aload_n hx hb dX3_run_84 rfl (lv_at hl 0 rfl) ?_
            refine gC_15_3 hx_E hw fl_X3_27 dX3_run_85 ?_
            obtain ⟨g12, h⟩ := it_g h
            refine aC_18 hx_E hw g12 dX3_run_88 ?_
            refine lv_aload_n hx hb dX3_run_89 rfl (lv_at hl 0 rfl) ?_
            refine gC_15_2 hx_E hw fl_X3_15 dX3_run_90 ?_
            refine lv_aload_n hx hb dX3_run_93 rfl (lv_at hl 0 rfl) ?_
            refine gC_15_3 hx_E hw fl_X3_27 dX3_run_94 ?_
            obtain ⟨g13, h⟩ := it_g h
            refine aC_19 hx_E hw g13 dX3_run_97 ?_
            obtain ⟨σ14, k15, h⟩ := it_b h
            refine kV_v (As := [.long (gL (sI (sI σ4 15 5 ((gI σ4 15 5) + (1 : Int32))) 15 3 ((gI (sI σ4 15 5 ((gI σ4 15 5) + (1 : Int32))) 15 3) - (1 : Int32))) 18 (gI (sI (sI σ4 15 5 ((gI σ4 15 5) + (1 : Int32))) 15 3 ((gI (sI σ4 15 5 ((gI σ4 15 5) + (1 : Int32))) 15 3) - (1 : Int32))) 15 3).toNatClampNeg), .long (gL (sI (sI σ4 15 5 ((gI σ4 15 5) + (1 : Int32))) 15 3 ((gI (sI σ4 15 5 ((gI σ4 15 5) + (1 : Int32))) 15 3) - (1 : Int32))) 19 (gI (sI (sI σ4 15 5 ((gI σ4 15 5) + (1 : Int32))) 15 3 ((gI (sI σ4 15 5 ((gI σ4 15 5) + (1 : Int32))) 15 3) - (1 : Int32))) 15 3).toNatClampNeg)]) (rest := []) (q := 16) hx_E hw (c_X0_begin l K 30 ad hI 16 isB_16 (gL (sI (sI σ4 15 5 ((gI σ4 15 5) + (1 : Int32))) 15 3 ((gI (sI σ4 15 5 ((gI σ4 15 5) + (1 : Int32))) 15 3) - (1 : Int32))) 18 (gI (sI (sI σ4 15 5 ((gI σ4 15 5) + (1 : Int32))) 15 3 ((gI (sI σ4 15 5 ((gI σ4 15 5) + (1 : Int32))) 15 3) - (1 : Int32))) 15 3).toNatClampNeg) (gL (sI (sI σ4 15 5 ((gI σ4 15 5) + (1 : Int32))) 15 3 ((gI (sI σ4 15 5 ((gI σ4 15 5) + (1 : Int32))) 15 3) - (1 : Int32))) 19 (gI (sI (sI σ4 15 5 ((gI σ4 15 5) + (1 : Int32))) 15 3 ((gI (sI σ4 15 5 ((gI σ4 15 5) + (1 : Int32))) 15 3) - (1 : Int32))) 15 3).toNatClampNeg) (sI (sI σ4 15 5 ((gI σ4 15 5) + (1 : Int32))) 15 3 ((gI (sI σ4 15 5 ((gI σ4 15 5) + (1 : Int32))) 15 3) - (1 : Int32))) k15) mi_X0_begin mv_X0_begin ml_X3_51 (by decide) rfl rfl rfl ⟨⟨Nat.le_of_ble_eq_true rfl, Nat.le_of_ble_eq_true rfl⟩, rfl, rfl⟩ ⟨Nat.zero_le _, Nat.zero_le _⟩ hl.1 rfl (Nat.le_of_ble_eq_true rfl) dX3_run_98 (fun H locs hw => ?_)
            refine lv_aload_n hx hb dX3_run_101 rfl (lv_at hl 0 rfl) ?_
            refine gC_15_0 hx_E hw fl_X3_23 dX3_run_102 ?_
            obtain ⟨σ16, k17, h⟩ := it_b h
            refine kV_v (As := []) (rest := []) (q := 16) hx_E hw (c_X0_settle l K 30 ad hI 16 isB_16  σ14 k17) mi_X0_settle mv_X0_settle ml_X3_54 (by decide) rfl rfl rfl ⟨⟨Nat.le_of_ble_eq_true rfl, Nat.le_of_ble_eq_true rfl⟩, rfl, rfl⟩ ⟨Nat.zero_le _, Nat.zero_le _⟩ hl.1 rfl (Nat.le_of_ble_eq_true rfl) dX3_run_105 (fun H locs hw => ?_)
            refine lv_aload_n hx hb dX3_run_108 rfl (lv_at hl 0 rfl) ?_
            obtain ⟨σ18, k19, h⟩ := it_b h
            refine kV_v (As := []) (rest := []) (q := 15) hx_E hw (c_X3_goOn l K ad hI   σ16 k19) mi_X3_goOn mv_X3_goOn ml_X3_57 (by decide) rfl rfl rfl ⟨⟨Nat.le_of_ble_eq_true rfl, Nat.le_of_ble_eq_true rfl⟩, rfl, rfl⟩ ⟨Nat.zero_le _, Nat.zero_le _⟩ hl.1 rfl (Nat.le_of_ble_eq_true rfl) dX3_run_109 (fun H locs hw => ?_)
            refine lv_iinc (v := (v3 + 1)) (lv' := [(3, .int (v3 + 1)), (0, .ref (ad 15)), (2, .int l2)]) hx hb dX3_run_112 hl (k := 2) rfl rfl (by decide) rfl (fun ls hl => ?_)
            refine lv_goto (tgt := 34) hx hb dX3_run_115 (by decide) ?_
            exact ih _ _  H locs ls h hw (lv_sub hl [1, 2, 0] rfl)
  exact hL6 600 _ _  H locs ls h9 hw (lv_sub hl [1, 3, 0] rfl)
set_option maxHeartbeats 4000000 in
set_option maxRecDepth 100000 in
theorem c_X6_solutions (l : Launch) (K : vK) (ad : Nat → Nat) (hI : adInj 30 ad) (l1 : Int32) (σ : vSt) {r : Int32} {σ' : vSt} (h : f_X6_solutions l1 σ = some (r, σ')) : MCi l yX6_solutions (wsY yX6_solutions cX6_solutions 2 (some .int)) (rmF 6 119) K 30 ad (cC K ad) [.ref (ad 8), .int l1] σ r σ' := by
  refine MCi_of (own := RX6) (plainFor_of_name (by decide)) hI rfl (Nat.le_of_ble_eq_true rfl) ?_
  intro p e s m args below meth c A Q hx_E hE H locs ls hw hl
  have hx := hx_E.1; have hb := hx_E.2.1; have hown := hx_E.2.2.2.1; have hts := hx_E.2.2.2.2.1
  replace hl : lv_has ls 2 [(0, .ref (ad 8)), (1, .int l1)] := hl
  unfold f_X6_solutions at h
  refine lv_iload_n hx hb dX6_solutions_0 rfl (lv_at hl 1 rfl) ?_
  refine lv_iconst (v := 1) hx hb dX6_solutions_1 (by decide) ?_
  refine lv_icmp_lt (tgt := 11) hx hb dX6_solutions_2 (by decide) (fun c1 => ?_) (fun c1 => ?_)
  · replace h := it_t c1 h
    refine lv_bipush (v := -2) hx hb dX6_solutions_11 (by decide) ?_
    exact hE hw (congrArg Prod.fst (Option.some.inj h)) (congrArg Prod.snd (Option.some.inj h)) dX6_solutions_13
  · replace h := it_f c1 h
    refine lv_iload_n hx hb dX6_solutions_5 rfl (lv_at hl 1 rfl) ?_
    refine lv_bipush (v := 20) hx hb dX6_solutions_6 (by decide) ?_
    refine lv_icmp_le (tgt := 14) hx hb dX6_solutions_8 (by decide) (fun c2 => ?_) (fun c2 => ?_)
    · replace h := it_t c2 h
      refine lv_aload_n hx hb dX6_solutions_14 rfl (lv_at hl 0 rfl) ?_
      refine gC_8_3 hx_E hw fl_X6_47 dX6_solutions_15 ?_
      refine lv_aload_n hx hb dX6_solutions_18 rfl (lv_at hl 0 rfl) ?_
      refine gC_8_1 hx_E hw fl_X6_33 dX6_solutions_19 ?_
      refine lv_iload_n hx hb dX6_solutions_22 rfl (lv_at hl 1 rfl) ?_
      obtain ⟨σ3, k4, h⟩ := it_b h
      refine kV_v (As := [.ref (ad 6), .int l1]) (rest := []) (q := 15) hx_E hw (c_X3_run l K ad hI  l1 σ k4) mi_X3_run mv_X3_run ml_X6_185 (by decide) rfl rfl rfl ⟨⟨Nat.le_of_ble_eq_true rfl, Nat.le_of_ble_eq_true rfl⟩, rfl, rfl⟩ ⟨Nat.zero_le _, Nat.zero_le _⟩ hl.1 rfl (Nat.le_of_ble_eq_true rfl) dX6_solutions_23 (fun H locs hw => ?_)
      refine lv_aload_n hx hb dX6_solutions_26 rfl (lv_at hl 0 rfl) ?_
      refine gC_8_3 hx_E hw fl_X6_47 dX6_solutions_27 ?_
      refine gC_15_4 hx_E hw fl_X6_189 dX6_solutions_30 ?_
      exact hE hw (congrArg Prod.fst (Option.some.inj h)) (congrArg Prod.snd (Option.some.inj h)) dX6_solutions_33
    · replace h := it_f c2 h
      refine lv_bipush (v := -2) hx hb dX6_solutions_11 (by decide) ?_
      exact hE hw (congrArg Prod.fst (Option.some.inj h)) (congrArg Prod.snd (Option.some.inj h)) dX6_solutions_13
set_option maxHeartbeats 4000000 in
set_option maxRecDepth 100000 in
theorem c_X3_nodesTold (l : Launch) (K : vK) (ad : Nat → Nat) (hI : adInj 30 ad) (σ : vSt) {r : Int32} (h : f_X3_nodesTold σ = some r) : MCi l yX3_nodesTold (wsY yX3_nodesTold cX3_nodesTold 1 (some .int)) (rmF 1 0) K 30 ad (cC K ad) [.ref (ad 15)] σ r σ := by
  refine MCi_of (own := RX3) (plainFor_of_name (by decide)) hI rfl (Nat.le_of_ble_eq_true rfl) ?_
  intro p e s m args below meth c A Q hx_E hE H locs ls hw hl
  have hx := hx_E.1; have hb := hx_E.2.1; have hown := hx_E.2.2.2.1; have hts := hx_E.2.2.2.2.1
  replace hl : lv_has ls 1 [(0, .ref (ad 15))] := hl
  unfold f_X3_nodesTold at h
  refine lv_aload_n hx hb dX3_nodesTold_0 rfl (lv_at hl 0 rfl) ?_
  refine gC_15_7 hx_E hw fl_X3_60 dX3_nodesTold_1 ?_
  refine lv_if_eq (tgt := 13) hx hb dX3_nodesTold_4 (by decide) (fun c1 => ?_) (fun c1 => ?_)
  · replace h := it_t c1 h
    refine lv_aload_n hx hb dX3_nodesTold_13 rfl (lv_at hl 0 rfl) ?_
    refine gC_15_5 hx_E hw fl_X3_34 dX3_nodesTold_14 ?_
    exact hE hw (Option.some.inj h) rfl dX3_nodesTold_17
  · replace h := it_f c1 h
    refine lv_sipush (v := -200) hx hb dX3_nodesTold_7 (by decide) ?_
    refine lv_goto (tgt := 17) hx hb dX3_nodesTold_10 (by decide) ?_
    exact hE hw (Option.some.inj h) rfl dX3_nodesTold_17
set_option maxHeartbeats 4000000 in
set_option maxRecDepth 100000 in
theorem c_X6_nodes (l : Launch) (K : vK) (ad : Nat → Nat) (hI : adInj 30 ad) (l1 : Int32) (σ : vSt) {r : Int32} {σ' : vSt} (h : f_X6_nodes l1 σ = some (r, σ')) : MCi l yX6_nodes (wsY yX6_nodes cX6_nodes 2 (some .int)) (rmF 6 119) K 30 ad (cC K ad) [.ref (ad 8), .int l1] σ r σ' := by
  refine MCi_of (own := RX6) (plainFor_of_name (by decide)) hI rfl (Nat.le_of_ble_eq_true rfl) ?_
  intro p e s m args below meth c A Q hx_E hE H locs ls hw hl
  have hx := hx_E.1; have hb := hx_E.2.1; have hown := hx_E.2.2.2.1; have hts := hx_E.2.2.2.2.1
  replace hl : lv_has ls 2 [(0, .ref (ad 8)), (1, .int l1)] := hl
  unfold f_X6_nodes at h
  refine lv_iload_n hx hb dX6_nodes_0 rfl (lv_at hl 1 rfl) ?_
  refine lv_iconst (v := 1) hx hb dX6_nodes_1 (by decide) ?_
  refine lv_icmp_lt (tgt := 11) hx hb dX6_nodes_2 (by decide) (fun c1 => ?_) (fun c1 => ?_)
  · replace h := it_t c1 h
    refine lv_bipush (v := -2) hx hb dX6_nodes_11 (by decide) ?_
    exact hE hw (congrArg Prod.fst (Option.some.inj h)) (congrArg Prod.snd (Option.some.inj h)) dX6_nodes_13
  · replace h := it_f c1 h
    refine lv_iload_n hx hb dX6_nodes_5 rfl (lv_at hl 1 rfl) ?_
    refine lv_bipush (v := 20) hx hb dX6_nodes_6 (by decide) ?_
    refine lv_icmp_le (tgt := 14) hx hb dX6_nodes_8 (by decide) (fun c2 => ?_) (fun c2 => ?_)
    · replace h := it_t c2 h
      refine lv_aload_n hx hb dX6_nodes_14 rfl (lv_at hl 0 rfl) ?_
      refine gC_8_3 hx_E hw fl_X6_47 dX6_nodes_15 ?_
      refine lv_aload_n hx hb dX6_nodes_18 rfl (lv_at hl 0 rfl) ?_
      refine gC_8_1 hx_E hw fl_X6_33 dX6_nodes_19 ?_
      refine lv_iload_n hx hb dX6_nodes_22 rfl (lv_at hl 1 rfl) ?_
      obtain ⟨σ3, k4, h⟩ := it_b h
      refine kV_v (As := [.ref (ad 6), .int l1]) (rest := []) (q := 15) hx_E hw (c_X3_run l K ad hI  l1 σ k4) mi_X3_run mv_X3_run ml_X6_185 (by decide) rfl rfl rfl ⟨⟨Nat.le_of_ble_eq_true rfl, Nat.le_of_ble_eq_true rfl⟩, rfl, rfl⟩ ⟨Nat.zero_le _, Nat.zero_le _⟩ hl.1 rfl (Nat.le_of_ble_eq_true rfl) dX6_nodes_23 (fun H locs hw => ?_)
      refine lv_aload_n hx hb dX6_nodes_26 rfl (lv_at hl 0 rfl) ?_
      refine gC_8_3 hx_E hw fl_X6_47 dX6_nodes_27 ?_
      obtain ⟨v5, k6, h⟩ := it_b h
      refine kV_i (As := []) (rest := []) (q := 15) hx_E hw (c_X3_nodesTold l K ad hI   σ3 k6) mi_X3_nodesTold mv_X3_nodesTold ml_X6_192 (by decide) rfl rfl rfl ⟨⟨Nat.le_of_ble_eq_true rfl, Nat.le_of_ble_eq_true rfl⟩, rfl, rfl⟩ ⟨Nat.zero_le _, Nat.zero_le _⟩ hl.1 rfl (Nat.le_of_ble_eq_true rfl) dX6_nodes_30 (fun H locs hw => ?_)
      exact hE hw (congrArg Prod.fst (Option.some.inj h)) (congrArg Prod.snd (Option.some.inj h)) dX6_nodes_33
    · replace h := it_f c2 h
      refine lv_bipush (v := -2) hx hb dX6_nodes_11 (by decide) ?_
      exact hE hw (congrArg Prod.fst (Option.some.inj h)) (congrArg Prod.snd (Option.some.inj h)) dX6_nodes_13
set_option maxHeartbeats 4000000 in
set_option maxRecDepth 100000 in
theorem c_X6_solved (l : Launch) (K : vK) (ad : Nat → Nat) (hI : adInj 30 ad) (l1 : Int32) (σ : vSt) {r : Int32} {σ' : vSt} (h : f_X6_solved l1 σ = some (r, σ')) : MCi l yX6_solved (wsY yX6_solved cX6_solved 2 (some .int)) (rmF 6 119) K 30 ad (cC K ad) [.ref (ad 8), .int l1] σ r σ' := by
  refine MCi_of (own := RX6) (plainFor_of_name (by decide)) hI rfl (Nat.le_of_ble_eq_true rfl) ?_
  intro p e s m args below meth c A Q hx_E hE H locs ls hw hl
  have hx := hx_E.1; have hb := hx_E.2.1; have hown := hx_E.2.2.2.1; have hts := hx_E.2.2.2.2.1
  replace hl : lv_has ls 2 [(0, .ref (ad 8)), (1, .int l1)] := hl
  unfold f_X6_solved at h
  refine lv_aload_n hx hb dX6_solved_0 rfl (lv_at hl 0 rfl) ?_
  refine gC_8_0 hx_E hw fl_X6_27 dX6_solved_1 ?_
  refine lv_iload_n hx hb dX6_solved_4 rfl (lv_at hl 1 rfl) ?_
  obtain ⟨v1, k2, h⟩ := it_b h
  refine kV_z (As := [.int l1]) (rest := []) (q := 0) hx_E hw (c_X1_hasEdge l K 30 (by decide) ad hI  l1 σ k2) mi_X1_hasEdge mv_X1_hasEdge ml_X6_115 (by decide) rfl rfl rfl ⟨⟨Nat.le_of_ble_eq_true rfl, Nat.le_of_ble_eq_true rfl⟩, rfl, rfl⟩ ⟨Nat.zero_le _, Nat.zero_le _⟩ hl.1 rfl (Nat.le_of_ble_eq_true rfl) dX6_solved_5 (fun z3 H locs hw => ?_)
  refine lv_if_ne (tgt := 14) hx hb dX6_solved_8 (by decide) (fun c4 => ?_) (fun c4 => ?_)
  · replace h := it_f c4 h
    refine lv_aload_n hx hb dX6_solved_14 rfl (lv_at hl 0 rfl) ?_
    refine gC_8_3 hx_E hw fl_X6_47 dX6_solved_15 ?_
    refine lv_aload_n hx hb dX6_solved_18 rfl (lv_at hl 0 rfl) ?_
    refine gC_8_1 hx_E hw fl_X6_33 dX6_solved_19 ?_
    refine lv_iconst (v := 1) hx hb dX6_solved_22 (by decide) ?_
    obtain ⟨σ5, k6, h⟩ := it_b h
    refine kV_v (As := [.ref (ad 6), .int (1 : Int32)]) (rest := []) (q := 15) hx_E hw (c_X3_run l K ad hI  (1 : Int32) σ k6) mi_X3_run mv_X3_run ml_X6_185 (by decide) rfl rfl rfl ⟨⟨Nat.le_of_ble_eq_true rfl, Nat.le_of_ble_eq_true rfl⟩, rfl, rfl⟩ ⟨Nat.zero_le _, Nat.zero_le _⟩ hl.1 rfl (Nat.le_of_ble_eq_true rfl) dX6_solved_23 (fun H locs hw => ?_)
    refine lv_aload_n hx hb dX6_solved_26 rfl (lv_at hl 0 rfl) ?_
    refine gC_8_3 hx_E hw fl_X6_47 dX6_solved_27 ?_
    refine gC_15_4 hx_E hw fl_X6_189 dX6_solved_30 ?_
    refine lv_if_ne (tgt := 38) hx hb dX6_solved_33 (by decide) (fun c7 => ?_) (fun c7 => ?_)
    · replace h := it_f c7 h
      refine lv_aload_n hx hb dX6_solved_38 rfl (lv_at hl 0 rfl) ?_
      refine gC_8_3 hx_E hw fl_X6_47 dX6_solved_39 ?_
      refine gC_15_6 hx_E hw fl_X6_195 dX6_solved_42 ?_
      refine lv_iload_n hx hb dX6_solved_45 rfl (lv_at hl 1 rfl) ?_
      refine lv_lushr (v := (o_lushr (gL σ5 15 6) l1)) hx hb dX6_solved_46 rfl ?_
      refine lv_lconst (v := 1) hx hb dX6_solved_47 (by decide) ?_
      refine lv_land hx hb dX6_solved_48 ?_
      refine lv_lconst (v := 0) hx hb dX6_solved_49 (by decide) ?_
      refine W.lcmp hx hb dX6_solved_50 ?_
      refine lv_if_ne (tgt := 58) hx hb dX6_solved_51 (by decide) (fun c8 => ?_) (fun c8 => ?_)
      · replace h := it_f c8 h
        refine lv_iconst (v := 1) hx hb dX6_solved_58 (by decide) ?_
        exact hE hw (congrArg Prod.fst (Option.some.inj h)) (congrArg Prod.snd (Option.some.inj h)) dX6_solved_59
      · replace h := it_t c8 h
        refine lv_iconst (v := 0) hx hb dX6_solved_54 (by decide) ?_
        refine lv_goto (tgt := 59) hx hb dX6_solved_55 (by decide) ?_
        exact hE hw (congrArg Prod.fst (Option.some.inj h)) (congrArg Prod.snd (Option.some.inj h)) dX6_solved_59
    · replace h := it_t c7 h
      refine lv_iconst (v := -1) hx hb dX6_solved_36 (by decide) ?_
      exact hE hw (congrArg Prod.fst (Option.some.inj h)) (congrArg Prod.snd (Option.some.inj h)) dX6_solved_37
  · replace h := it_t c4 h
    refine lv_bipush (v := -2) hx hb dX6_solved_11 (by decide) ?_
    exact hE hw (congrArg Prod.fst (Option.some.inj h)) (congrArg Prod.snd (Option.some.inj h)) dX6_solved_13
set_option maxHeartbeats 4000000 in
set_option maxRecDepth 100000 in
theorem c_X4_greatestGrade (l : Launch) (K : vK) (ad : Nat → Nat) (hI : adInj 30 ad) (σ : vSt) {r : Int32} {σ' : vSt} (h : f_X4_greatestGrade σ = some (r, σ')) : MCi l yX4_greatestGrade (wsY yX4_greatestGrade cX4_greatestGrade 3 (some .int)) (rmF 6 121) K 30 ad (cC K ad) [.ref (ad 10)] σ r σ' := by
  refine MCi_of (own := RX4) (plainFor_of_name (by decide)) hI rfl (Nat.le_of_ble_eq_true rfl) ?_
  intro p e s m args below meth c A Q hx_E hE H locs ls hw hl
  have hx := hx_E.1; have hb := hx_E.2.1; have hown := hx_E.2.2.2.1; have hts := hx_E.2.2.2.2.1
  replace hl : lv_has ls 3 [(0, .ref (ad 10))] := hl
  unfold f_X4_greatestGrade at h
  refine lv_aload_n hx hb dX4_greatestGrade_0 rfl (lv_at hl 0 rfl) ?_
  refine gC_10_2 hx_E hw fl_X4_24 dX4_greatestGrade_1 ?_
  refine lv_lconst (v := 0) hx hb dX4_greatestGrade_4 (by decide) ?_
  refine lv_aload_n hx hb dX4_greatestGrade_5 rfl (lv_at hl 0 rfl) ?_
  refine gC_10_0 hx_E hw fl_X4_9 dX4_greatestGrade_6 ?_
  obtain ⟨v1, k2, h⟩ := it_b h
  refine kV_l (As := []) (rest := [.long (0 : Int64), .ref (ad 13)]) (q := 0) hx_E hw (c_X1_allEdges l K 30 (by decide) ad hI   σ k2) mi_X1_allEdges mv_X1_allEdges ml_X4_67 (by decide) rfl rfl rfl ⟨⟨Nat.le_of_ble_eq_true rfl, Nat.le_of_ble_eq_true rfl⟩, rfl, rfl⟩ ⟨Nat.zero_le _, Nat.zero_le _⟩ hl.1 rfl (Nat.le_of_ble_eq_true rfl) dX4_greatestGrade_9 (fun H locs hw => ?_)
  obtain ⟨σ3, k4, h⟩ := it_b h
  refine kV_v (As := [.long (0 : Int64), .long v1]) (rest := []) (q := 13) hx_E hw (c_X0_begin l K 30 ad hI 13 isB_13 (0 : Int64) v1 σ k4) mi_X0_begin mv_X0_begin ml_X4_71 (by decide) rfl rfl rfl ⟨⟨Nat.le_of_ble_eq_true rfl, Nat.le_of_ble_eq_true rfl⟩, rfl, rfl⟩ ⟨Nat.zero_le _, Nat.zero_le _⟩ hl.1 rfl (Nat.le_of_ble_eq_true rfl) dX4_greatestGrade_12 (fun H locs hw => ?_)
  refine lv_iconst (v := -1) hx hb dX4_greatestGrade_15 (by decide) ?_
  refine lv_istore_n (lv' := [(1, .int (-1 : Int32)), (0, .ref (ad 10))]) hx hb dX4_greatestGrade_16 rfl hl (by decide) rfl (fun ls hl => ?_)
  refine lv_iconst (v := 0) hx hb dX4_greatestGrade_17 (by decide) ?_
  refine lv_istore_n (lv' := [(2, .int (0 : Int32)), (1, .int (-1 : Int32)), (0, .ref (ad 10))]) hx hb dX4_greatestGrade_18 rfl hl (by decide) rfl (fun ls hl => ?_)
  obtain ⟨φ12, h9, h_φ12⟩ := it_b h
  have hJ11 : ∀ (v8 : Int32) (σ9 : vSt), (v8, σ9) = φ12 → ∀ (H : Heap) (locs : List Loc) (ls : Array Slot), PW K 30 ad (cC K ad) A s.heap σ9 H locs → lv_has ls 3 [(0, .ref (ad 10)), (1, .int v8)] → W p l e (rmF 6 121) s m args below meth c H locs 0 0 Q (F0 m 66 ls []) := by
    intro v8 σ9 e9 H locs ls hw hl
    subst e9
    replace h := h_φ12
    refine lv_aload_n hx hb dX4_greatestGrade_66 rfl (lv_at hl 0 rfl) ?_
    refine gC_10_2 hx_E hw fl_X4_24 dX4_greatestGrade_67 ?_
    obtain ⟨v25, k26, h⟩ := it_b h
    refine kV_z (As := []) (rest := []) (q := 13) hx_E hw (c_X0_finished l K 30 ad hI 13 isB_13  σ9 k26) mi_X0_finished mv_X0_finished ml_X4_94 (by decide) rfl rfl rfl ⟨⟨Nat.le_of_ble_eq_true rfl, Nat.le_of_ble_eq_true rfl⟩, rfl, rfl⟩ ⟨Nat.zero_le _, Nat.zero_le _⟩ hl.1 rfl (Nat.le_of_ble_eq_true rfl) dX4_greatestGrade_70 (fun z27 H locs hw => ?_)
    refine lv_if_eq (tgt := 80) hx hb dX4_greatestGrade_73 (by decide) (fun c28 => ?_) (fun c28 => ?_)
    · replace h := it_t c28 h
      refine lv_iconst (v := -1) hx hb dX4_greatestGrade_80 (by decide) ?_
      exact hE hw (congrArg Prod.fst (Option.some.inj h)) (congrArg Prod.snd (Option.some.inj h)) dX4_greatestGrade_81
    · replace h := it_f c28 h
      refine lv_iload_n hx hb dX4_greatestGrade_76 rfl (lv_at hl 1 rfl) ?_
      refine lv_goto (tgt := 81) hx hb dX4_greatestGrade_77 (by decide) ?_
      exact hE hw (congrArg Prod.fst (Option.some.inj h)) (congrArg Prod.snd (Option.some.inj h)) dX4_greatestGrade_81
  have hL10 : ∀ (n9 : Nat) (v5 : Int32) (v6 : Int32) (σ7 : vSt), ∀ (H : Heap) (locs : List Loc) (ls : Array Slot), f_X4_greatestGrade_19  n9 v5 v6 σ7 = some φ12 → PW K 30 ad (cC K ad) A s.heap σ7 H locs → lv_has ls 3 [(0, .ref (ad 10)), (1, .int v5), (2, .int v6)] → W p l e (rmF 6 121) s m args below meth c H locs 0 0 Q (F0 m 19 ls []) := by
    intro n9
    induction n9 with
    | zero => intro v5 v6 σ7 H locs ls h hw hl; rw [f_X4_greatestGrade_19.eq_1] at h; exact it_n h
    | succ n9 ih =>
      intro v5 v6 σ7 H locs ls h hw hl
      rw [f_X4_greatestGrade_19.eq_2] at h
      refine lv_iload_n hx hb dX4_greatestGrade_19 rfl (lv_at hl 2 rfl) ?_
      refine lv_bipush (v := 40) hx hb dX4_greatestGrade_20 (by decide) ?_
      refine lv_icmp_ge (tgt := 66) hx hb dX4_greatestGrade_22 (by decide) (fun c13 => ?_) (fun c13 => ?_)
      · replace h := it_t c13 h
        have e9 := Option.some.inj h
        subst e9
        exact hJ11 _ _ rfl  H locs ls hw (lv_sub hl [0, 1] rfl)
      · replace h := it_f c13 h
        refine lv_aload_n hx hb dX4_greatestGrade_25 rfl (lv_at hl 0 rfl) ?_
        refine lv_aload_n hx hb dX4_greatestGrade_26 rfl (lv_at hl 0 rfl) ?_
        refine gC_10_2 hx_E hw fl_X4_24 dX4_greatestGrade_27 ?_
        refine lv_bipush (v := 7) hx hb dX4_greatestGrade_30 (by decide) ?_
        obtain ⟨⟨v14, σ15⟩, k16, h⟩ := it_b h
        refine kV_z (As := [.ref (ad 13), .int (7 : Int32)]) (rest := []) (q := 10) hx_E hw (c_X4_findNext l K ad hI 13 isB_13 (7 : Int32) σ7 k16) mi_X4_findNext mv_X4_findNext ml_X4_75 (by decide) rfl rfl rfl ⟨⟨Nat.le_of_ble_eq_true rfl, Nat.le_of_ble_eq_true rfl⟩, rfl, rfl⟩ ⟨Nat.zero_le _, Nat.zero_le _⟩ hl.1 rfl (Nat.le_of_ble_eq_true rfl) dX4_greatestGrade_32 (fun z17 H locs hw => ?_)
        refine lv_if_eq (tgt := 66) hx hb dX4_greatestGrade_35 (by decide) (fun c18 => ?_) (fun c18 => ?_)
        · replace h := it_t c18 h
          have e9 := Option.some.inj h
          subst e9
          exact hJ11 _ _ rfl  H locs ls hw (lv_sub hl [0, 1] rfl)
        · replace h := it_f c18 h
          refine lv_iload_n hx hb dX4_greatestGrade_38 rfl (lv_at hl 1 rfl) ?_
          refine lv_aload_n hx hb dX4_greatestGrade_39 rfl (lv_at hl 0 rfl) ?_
          refine gC_10_2 hx_E hw fl_X4_24 dX4_greatestGrade_40 ?_
          refine gC_B_10 hx_E hw isB_13 fl_X4_79 dX4_greatestGrade_43 ?_
          obtain ⟨v19, k20, h⟩ := it_b h
          refine kN_i (As := [.int (gI σ15 13 10)]) (rest := [.int v5]) hx_E hw (c_X6_gradeOf l K (gI σ15 13 10) k20) mi_X6_gradeOf sm_X6_gradeOf (hx_E.2.2.2.2.2.2.2.2.2.2.2.1) rfl ⟨⟨Nat.le_of_ble_eq_true rfl, Nat.le_of_ble_eq_true rfl⟩, rfl, rfl⟩ ⟨Nat.zero_le _, Nat.zero_le _⟩ hl.1 rfl (Nat.le_of_ble_eq_true rfl) dX4_greatestGrade_46 (fun H locs hw => ?_)
          obtain ⟨v21, k22, h⟩ := it_b h
          refine kS_i (As := [.int v5, .int v19]) (rest := []) hx_E hw (c_J9_max_7cf53 l K v5 v19 k22) mi_J9_max_7cf53 sm_J9_max_7cf53 ml_X4_85 rfl ⟨⟨Nat.le_of_ble_eq_true rfl, Nat.le_of_ble_eq_true rfl⟩, rfl, rfl⟩ ⟨Nat.zero_le _, Nat.zero_le _⟩ hl.1 rfl (Nat.le_of_ble_eq_true rfl) dX4_greatestGrade_49 (fun H locs hw => ?_)
          refine lv_istore_n (lv' := [(1, .int v21), (0, .ref (ad 10)), (2, .int v6)]) hx hb dX4_greatestGrade_52 rfl hl (by decide) rfl (fun ls hl => ?_)
          refine lv_aload_n hx hb dX4_greatestGrade_53 rfl (lv_at hl 1 rfl) ?_
          refine gC_10_2 hx_E hw fl_X4_24 dX4_greatestGrade_54 ?_
          obtain ⟨σ23, k24, h⟩ := it_b h
          refine kV_v (As := []) (rest := []) (q := 13) hx_E hw (c_X0_makeFound l K 30 ad hI 13 isB_13  σ15 k24) mi_X0_makeFound mv_X0_makeFound ml_X4_91 (by decide) rfl rfl rfl ⟨⟨Nat.le_of_ble_eq_true rfl, Nat.le_of_ble_eq_true rfl⟩, rfl, rfl⟩ ⟨Nat.zero_le _, Nat.zero_le _⟩ hl.1 rfl (Nat.le_of_ble_eq_true rfl) dX4_greatestGrade_57 (fun H locs hw => ?_)
          refine lv_iinc (v := (v6 + 1)) (lv' := [(2, .int (v6 + 1)), (1, .int v21), (0, .ref (ad 10))]) hx hb dX4_greatestGrade_60 hl (k := 2) rfl rfl (by decide) rfl (fun ls hl => ?_)
          refine lv_goto (tgt := 19) hx hb dX4_greatestGrade_63 (by decide) ?_
          exact ih _ _ _  H locs ls h hw (lv_sub hl [2, 1, 0] rfl)
  exact hL10 600 _ _ _  H locs ls h9 hw (lv_sub hl [2, 1, 0] rfl)
set_option maxHeartbeats 4000000 in
set_option maxRecDepth 100000 in
theorem c_X6_grade (l : Launch) (K : vK) (ad : Nat → Nat) (hI : adInj 30 ad) (σ : vSt) {r : Int32} {σ' : vSt} (h : f_X6_grade σ = some (r, σ')) : MCi l yX6_grade (wsY yX6_grade cX6_grade 1 (some .int)) (rmF 7 143) K 30 ad (cC K ad) [.ref (ad 8)] σ r σ' := by
  refine MCi_of (own := RX6) (plainFor_of_name (by decide)) hI rfl (Nat.le_of_ble_eq_true rfl) ?_
  intro p e s m args below meth c A Q hx_E hE H locs ls hw hl
  have hx := hx_E.1; have hb := hx_E.2.1; have hown := hx_E.2.2.2.1; have hts := hx_E.2.2.2.2.1
  replace hl : lv_has ls 1 [(0, .ref (ad 8))] := hl
  unfold f_X6_grade at h
  refine lv_aload_n hx hb dX6_grade_0 rfl (lv_at hl 0 rfl) ?_
  refine gC_8_2 hx_E hw fl_X6_40 dX6_grade_1 ?_
  obtain ⟨⟨v1, σ2⟩, k3, h⟩ := it_b h
  refine kV_i (As := []) (rest := []) (q := 10) hx_E hw (c_X4_greatestGrade l K ad hI   σ k3) mi_X4_greatestGrade mv_X4_greatestGrade ml_X6_198 (by decide) rfl rfl rfl ⟨⟨Nat.le_of_ble_eq_true rfl, Nat.le_of_ble_eq_true rfl⟩, rfl, rfl⟩ ⟨Nat.zero_le _, Nat.zero_le _⟩ hl.1 rfl (Nat.le_of_ble_eq_true rfl) dX6_grade_4 (fun H locs hw => ?_)
  exact hE hw (congrArg Prod.fst (Option.some.inj h)) (congrArg Prod.snd (Option.some.inj h)) dX6_grade_7
set_option maxHeartbeats 4000000 in
set_option maxRecDepth 100000 in
theorem c_X1_countedCells (l : Launch) (K : vK) (N : Nat) (hN : 6 ≤ N) (ad : Nat → Nat) (hI : adInj N ad) (σ : vSt) {r : Int32} (h : f_X1_countedCells σ = some r) : MCi l yX1_countedCells (wsY yX1_countedCells cX1_countedCells 3 (some .int)) (rmF 1 0) K N ad (cC K ad) [.ref (ad 0)] σ r σ := by
  refine MCi_of (own := RX1) (plainFor_of_name (by decide)) hI rfl (Nat.le_of_ble_eq_true rfl) ?_
  intro p e s m args below meth c A Q hx_E hE H locs ls hw hl
  have hx := hx_E.1; have hb := hx_E.2.1; have hown := hx_E.2.2.2.1; have hts := hx_E.2.2.2.2.1
  replace hl : lv_has ls 3 [(0, .ref (ad 0))] := hl
  unfold f_X1_countedCells at h
  refine lv_iconst (v := 0) hx hb dX1_countedCells_0 (by decide) ?_
  refine lv_istore_n (lv' := [(1, .int (0 : Int32)), (0, .ref (ad 0))]) hx hb dX1_countedCells_1 rfl hl (by decide) rfl (fun ls hl => ?_)
  refine lv_iconst (v := 0) hx hb dX1_countedCells_2 (by decide) ?_
  refine lv_istore_n (lv' := [(2, .int (0 : Int32)), (1, .int (0 : Int32)), (0, .ref (ad 0))]) hx hb dX1_countedCells_3 rfl hl (by decide) rfl (fun ls hl => ?_)
  obtain ⟨φ6, h9, h_φ6⟩ := it_b h
  have hJ5 : ∀ (v3 : Int32), v3 = φ6 → ∀ (H : Heap) (locs : List Loc) (ls : Array Slot), PW K N ad (cC K ad) A s.heap σ H locs → lv_has ls 3 [(1, .int v3)] → W p l e (rmF 1 0) s m args below meth c H locs 0 0 Q (F0 m 31 ls []) := by
    intro v3 e9 H locs ls hw hl
    subst e9
    replace h := h_φ6
    refine lv_iload_n hx hb dX1_countedCells_31 rfl (lv_at hl 0 rfl) ?_
    exact hE hw (Option.some.inj h) rfl dX1_countedCells_32
  have hL4 : ∀ (n9 : Nat) (v1 : Int32) (v2 : Int32), ∀ (H : Heap) (locs : List Loc) (ls : Array Slot), f_X1_countedCells_4 σ n9 v1 v2 = some φ6 → PW K N ad (cC K ad) A s.heap σ H locs → lv_has ls 3 [(0, .ref (ad 0)), (1, .int v1), (2, .int v2)] → W p l e (rmF 1 0) s m args below meth c H locs 0 0 Q (F0 m 4 ls []) := by
    intro n9
    induction n9 with
    | zero => intro v1 v2 H locs ls h hw hl; rw [f_X1_countedCells_4.eq_1] at h; exact it_n h
    | succ n9 ih =>
      intro v1 v2 H locs ls h hw hl
      rw [f_X1_countedCells_4.eq_2] at h
      refine lv_iload_n hx hb dX1_countedCells_4 rfl (lv_at hl 2 rfl) ?_
      refine lv_aload_n hx hb dX1_countedCells_5 rfl (lv_at hl 0 rfl) ?_
      refine gC_0_7 hx_E hw hN fl_X1_28 dX1_countedCells_6 ?_
      refine lv_icmp_ge (tgt := 31) hx hb dX1_countedCells_9 (by decide) (fun c7 => ?_) (fun c7 => ?_)
      · replace h := it_t c7 h
        have e9 := Option.some.inj h
        subst e9
        exact hJ5 _ rfl  H locs ls hw (lv_sub hl [1] rfl)
      · replace h := it_f c7 h
        refine lv_aload_n hx hb dX1_countedCells_12 rfl (lv_at hl 0 rfl) ?_
        refine gC_0_0 hx_E hw hN fl_X1_9 dX1_countedCells_13 ?_
        refine lv_iload_n hx hb dX1_countedCells_16 rfl (lv_at hl 2 rfl) ?_
        obtain ⟨g8, h⟩ := it_g h
        refine aC_1 hx_E hw hN g8 dX1_countedCells_17 ?_
        refine lv_iconst (v := -1) hx hb dX1_countedCells_18 (by decide) ?_
        refine lv_icmp_eq (tgt := 25) hx hb dX1_countedCells_19 (by decide) (fun c9 => ?_) (fun c9 => ?_)
        · replace h := it_t c9 h
          refine lv_iinc (v := (v2 + 1)) (lv' := [(2, .int (v2 + 1)), (0, .ref (ad 0)), (1, .int v1)]) hx hb dX1_countedCells_25 hl (k := 2) rfl rfl (by decide) rfl (fun ls hl => ?_)
          refine lv_goto (tgt := 4) hx hb dX1_countedCells_28 (by decide) ?_
          exact ih _ _   H locs ls h hw (lv_sub hl [1, 2, 0] rfl)
        · replace h := it_f c9 h
          refine lv_iinc (v := (v1 + 1)) (lv' := [(1, .int (v1 + 1)), (0, .ref (ad 0)), (2, .int v2)]) hx hb dX1_countedCells_22 hl (k := 1) rfl rfl (by decide) rfl (fun ls hl => ?_)
          refine lv_iinc (v := (v2 + 1)) (lv' := [(2, .int (v2 + 1)), (1, .int (v1 + 1)), (0, .ref (ad 0))]) hx hb dX1_countedCells_25 hl (k := 2) rfl rfl (by decide) rfl (fun ls hl => ?_)
          refine lv_goto (tgt := 4) hx hb dX1_countedCells_28 (by decide) ?_
          exact ih _ _   H locs ls h hw (lv_sub hl [2, 1, 0] rfl)
  exact hL4 600 _ _  H locs ls h9 hw (lv_sub hl [2, 1, 0] rfl)
set_option maxHeartbeats 4000000 in
set_option maxRecDepth 100000 in
theorem c_X6_count (l : Launch) (K : vK) (ad : Nat → Nat) (hI : adInj 30 ad) (l1 : Int32) (σ : vSt) {r : Int32} (h : f_X6_count l1 σ = some r) : MCi l yX6_count (wsY yX6_count cX6_count 2 (some .int)) (rmF 2 22) K 30 ad (cC K ad) [.ref (ad 8), .int l1] σ r σ := by
  refine MCi_of (own := RX6) (plainFor_of_name (by decide)) hI rfl (Nat.le_of_ble_eq_true rfl) ?_
  intro p e s m args below meth c A Q hx_E hE H locs ls hw hl
  have hx := hx_E.1; have hb := hx_E.2.1; have hown := hx_E.2.2.2.1; have hts := hx_E.2.2.2.2.1
  replace hl : lv_has ls 2 [(0, .ref (ad 8)), (1, .int l1)] := hl
  unfold f_X6_count at h
  refine lv_iload_n hx hb dX6_count_0 rfl (lv_at hl 1 rfl) ?_
  refine lv_if_lt (tgt := 10) hx hb dX6_count_1 (by decide) (fun c1 => ?_) (fun c1 => ?_)
  · replace h := it_t c1 h
    refine lv_bipush (v := -2) hx hb dX6_count_10 (by decide) ?_
    exact hE hw (Option.some.inj h) rfl dX6_count_12
  · replace h := it_f c1 h
    refine lv_iload_n hx hb dX6_count_4 rfl (lv_at hl 1 rfl) ?_
    refine lv_bipush (v := 15) hx hb dX6_count_5 (by decide) ?_
    refine lv_icmp_le (tgt := 13) hx hb dX6_count_7 (by decide) (fun c2 => ?_) (fun c2 => ?_)
    · replace h := it_t c2 h
      refine lv_iload_n hx hb dX6_count_13 rfl (lv_at hl 1 rfl) ?_
      refine lv_bipush (v := 6) hx hb dX6_count_14 (by decide) ?_
      obtain ⟨φ5, h9, h_φ5⟩ := it_b h
      have hJ4 : ∀ (_u : Unit), .inr () = φ5 → ∀ (H : Heap) (locs : List Loc) (ls : Array Slot), PW K 30 ad (cC K ad) A s.heap σ H locs → lv_has ls 2 [(0, .ref (ad 8)), (1, .int l1)] → W p l e (rmF 2 22) s m args below meth c H locs 0 0 Q (F0 m 35 ls []) := by
        intro _u e9 H locs ls hw hl
        subst e9
        replace h := h_φ5
        refine lv_iload_n hx hb dX6_count_35 rfl (lv_at hl 1 rfl) ?_
        by_cases c14 : l1 = 0
        · replace h := it_t c14 h
          refine lv_tableIn (off := 76) (tgt := 112) hx hb dX6_count_36 (by rw [c14]; decide) (by rw [c14]; decide) (by rw [c14]; rfl) (by decide) ?_
          refine lv_aload_n hx hb dX6_count_112 rfl (lv_at hl 0 rfl) ?_
          refine gC_8_0 hx_E hw fl_X6_27 dX6_count_113 ?_
          refine gC_0_5 hx_E hw (by decide) fl_X6_201 dX6_count_116 ?_
          exact hE hw (Option.some.inj h) rfl dX6_count_119
        replace h := it_f c14 h
        by_cases c15 : l1 = 1
        · replace h := it_t c15 h
          refine lv_tableIn (off := 84) (tgt := 120) hx hb dX6_count_36 (by rw [c15]; decide) (by rw [c15]; decide) (by rw [c15]; rfl) (by decide) ?_
          refine lv_aload_n hx hb dX6_count_120 rfl (lv_at hl 0 rfl) ?_
          refine gC_8_0 hx_E hw fl_X6_27 dX6_count_121 ?_
          refine gC_0_6 hx_E hw (by decide) fl_X6_204 dX6_count_124 ?_
          exact hE hw (Option.some.inj h) rfl dX6_count_127
        replace h := it_f c15 h
        by_cases c16 : l1 = 2
        · replace h := it_t c16 h
          refine lv_tableIn (off := 92) (tgt := 128) hx hb dX6_count_36 (by rw [c16]; decide) (by rw [c16]; decide) (by rw [c16]; rfl) (by decide) ?_
          refine lv_aload_n hx hb dX6_count_128 rfl (lv_at hl 0 rfl) ?_
          refine gC_8_0 hx_E hw fl_X6_27 dX6_count_129 ?_
          refine gC_0_9 hx_E hw (by decide) fl_X6_101 dX6_count_132 ?_
          exact hE hw (Option.some.inj h) rfl dX6_count_135
        replace h := it_f c16 h
        by_cases c17 : l1 = 3
        · replace h := it_t c17 h
          refine lv_tableIn (off := 100) (tgt := 136) hx hb dX6_count_36 (by rw [c17]; decide) (by rw [c17]; decide) (by rw [c17]; rfl) (by decide) ?_
          refine lv_aload_n hx hb dX6_count_136 rfl (lv_at hl 0 rfl) ?_
          refine gC_8_1 hx_E hw fl_X6_33 dX6_count_137 ?_
          refine gC_B_3 hx_E hw isB_6 fl_X6_112 dX6_count_140 ?_
          obtain ⟨v8, k9, h⟩ := it_b h
          refine kS_i (As := [.long (gL σ 6 3)]) (rest := []) hx_E hw (c_J13_bitCount_95d88 l K (gL σ 6 3) k9) mi_J13_bitCount_95d88 sm_J13_bitCount_95d88 ml_X6_123 rfl ⟨⟨Nat.le_of_ble_eq_true rfl, Nat.le_of_ble_eq_true rfl⟩, rfl, rfl⟩ ⟨Nat.zero_le _, Nat.zero_le _⟩ hl.1 rfl (Nat.le_of_ble_eq_true rfl) dX6_count_143 (fun H locs hw => ?_)
          exact hE hw (Option.some.inj h) rfl dX6_count_146
        replace h := it_f c17 h
        by_cases c18 : l1 = 4
        · replace h := it_t c18 h
          refine lv_tableIn (off := 111) (tgt := 147) hx hb dX6_count_36 (by rw [c18]; decide) (by rw [c18]; decide) (by rw [c18]; rfl) (by decide) ?_
          refine lv_aload_n hx hb dX6_count_147 rfl (lv_at hl 0 rfl) ?_
          refine gC_8_1 hx_E hw fl_X6_33 dX6_count_148 ?_
          refine gC_B_2 hx_E hw isB_6 fl_X6_108 dX6_count_151 ?_
          obtain ⟨v10, k11, h⟩ := it_b h
          refine kS_i (As := [.long (gL σ 6 2)]) (rest := []) hx_E hw (c_J13_bitCount_95d88 l K (gL σ 6 2) k11) mi_J13_bitCount_95d88 sm_J13_bitCount_95d88 ml_X6_123 rfl ⟨⟨Nat.le_of_ble_eq_true rfl, Nat.le_of_ble_eq_true rfl⟩, rfl, rfl⟩ ⟨Nat.zero_le _, Nat.zero_le _⟩ hl.1 rfl (Nat.le_of_ble_eq_true rfl) dX6_count_154 (fun H locs hw => ?_)
          exact hE hw (Option.some.inj h) rfl dX6_count_157
        replace h := it_f c18 h
        by_cases c19 : l1 = 5
        · replace h := it_t c19 h
          refine lv_tableIn (off := 122) (tgt := 158) hx hb dX6_count_36 (by rw [c19]; decide) (by rw [c19]; decide) (by rw [c19]; rfl) (by decide) ?_
          refine lv_aload_n hx hb dX6_count_158 rfl (lv_at hl 0 rfl) ?_
          refine gC_8_0 hx_E hw fl_X6_27 dX6_count_159 ?_
          obtain ⟨v12, k13, h⟩ := it_b h
          refine kV_i (As := []) (rest := []) (q := 0) hx_E hw (c_X1_countedCells l K 30 (by decide) ad hI   σ k13) mi_X1_countedCells mv_X1_countedCells ml_X6_207 (by decide) rfl rfl rfl ⟨⟨Nat.le_of_ble_eq_true rfl, Nat.le_of_ble_eq_true rfl⟩, rfl, rfl⟩ ⟨Nat.zero_le _, Nat.zero_le _⟩ hl.1 rfl (Nat.le_of_ble_eq_true rfl) dX6_count_162 (fun H locs hw => ?_)
          exact hE hw (Option.some.inj h) rfl dX6_count_165
        replace h := it_f c19 h
        by_cases c20 : l1 = 6
        · replace h := it_t c20 h
          refine lv_tableIn (off := 138) (tgt := 174) hx hb dX6_count_36 (by rw [c20]; decide) (by rw [c20]; decide) (by rw [c20]; rfl) (by decide) ?_
          refine lv_aload_n hx hb dX6_count_174 rfl (lv_at hl 0 rfl) ?_
          refine gC_8_5 hx_E hw fl_X6_61 dX6_count_175 ?_
          refine gC_27_2 hx_E hw fl_X6_73 dX6_count_178 ?_
          exact hE hw (Option.some.inj h) rfl dX6_count_181
        replace h := it_f c20 h
        by_cases c21 : l1 = 7
        · replace h := it_t c21 h
          refine lv_tableIn (off := 138) (tgt := 174) hx hb dX6_count_36 (by rw [c21]; decide) (by rw [c21]; decide) (by rw [c21]; rfl) (by decide) ?_
          refine lv_aload_n hx hb dX6_count_174 rfl (lv_at hl 0 rfl) ?_
          refine gC_8_5 hx_E hw fl_X6_61 dX6_count_175 ?_
          refine gC_27_2 hx_E hw fl_X6_73 dX6_count_178 ?_
          exact hE hw (Option.some.inj h) rfl dX6_count_181
        replace h := it_f c21 h
        by_cases c22 : l1 = 8
        · replace h := it_t c22 h
          refine lv_tableIn (off := 138) (tgt := 174) hx hb dX6_count_36 (by rw [c22]; decide) (by rw [c22]; decide) (by rw [c22]; rfl) (by decide) ?_
          refine lv_aload_n hx hb dX6_count_174 rfl (lv_at hl 0 rfl) ?_
          refine gC_8_5 hx_E hw fl_X6_61 dX6_count_175 ?_
          refine gC_27_2 hx_E hw fl_X6_73 dX6_count_178 ?_
          exact hE hw (Option.some.inj h) rfl dX6_count_181
        replace h := it_f c22 h
        by_cases c23 : l1 = 9
        · replace h := it_t c23 h
          refine lv_tableIn (off := 138) (tgt := 174) hx hb dX6_count_36 (by rw [c23]; decide) (by rw [c23]; decide) (by rw [c23]; rfl) (by decide) ?_
          refine lv_aload_n hx hb dX6_count_174 rfl (lv_at hl 0 rfl) ?_
          refine gC_8_5 hx_E hw fl_X6_61 dX6_count_175 ?_
          refine gC_27_2 hx_E hw fl_X6_73 dX6_count_178 ?_
          exact hE hw (Option.some.inj h) rfl dX6_count_181
        replace h := it_f c23 h
        by_cases c24 : l1 = 10
        · replace h := it_t c24 h
          refine lv_tableIn (off := 138) (tgt := 174) hx hb dX6_count_36 (by rw [c24]; decide) (by rw [c24]; decide) (by rw [c24]; rfl) (by decide) ?_
          refine lv_aload_n hx hb dX6_count_174 rfl (lv_at hl 0 rfl) ?_
          refine gC_8_5 hx_E hw fl_X6_61 dX6_count_175 ?_
          refine gC_27_2 hx_E hw fl_X6_73 dX6_count_178 ?_
          exact hE hw (Option.some.inj h) rfl dX6_count_181
        replace h := it_f c24 h
        by_cases c25 : l1 = 11
        · replace h := it_t c25 h
          refine lv_tableIn (off := 138) (tgt := 174) hx hb dX6_count_36 (by rw [c25]; decide) (by rw [c25]; decide) (by rw [c25]; rfl) (by decide) ?_
          refine lv_aload_n hx hb dX6_count_174 rfl (lv_at hl 0 rfl) ?_
          refine gC_8_5 hx_E hw fl_X6_61 dX6_count_175 ?_
          refine gC_27_2 hx_E hw fl_X6_73 dX6_count_178 ?_
          exact hE hw (Option.some.inj h) rfl dX6_count_181
        replace h := it_f c25 h
        by_cases c26 : l1 = 12
        · replace h := it_t c26 h
          refine lv_tableIn (off := 138) (tgt := 174) hx hb dX6_count_36 (by rw [c26]; decide) (by rw [c26]; decide) (by rw [c26]; rfl) (by decide) ?_
          refine lv_aload_n hx hb dX6_count_174 rfl (lv_at hl 0 rfl) ?_
          refine gC_8_5 hx_E hw fl_X6_61 dX6_count_175 ?_
          refine gC_27_2 hx_E hw fl_X6_73 dX6_count_178 ?_
          exact hE hw (Option.some.inj h) rfl dX6_count_181
        replace h := it_f c26 h
        by_cases c27 : l1 = 13
        · replace h := it_t c27 h
          refine lv_tableIn (off := 138) (tgt := 174) hx hb dX6_count_36 (by rw [c27]; decide) (by rw [c27]; decide) (by rw [c27]; rfl) (by decide) ?_
          refine lv_aload_n hx hb dX6_count_174 rfl (lv_at hl 0 rfl) ?_
          refine gC_8_5 hx_E hw fl_X6_61 dX6_count_175 ?_
          refine gC_27_2 hx_E hw fl_X6_73 dX6_count_178 ?_
          exact hE hw (Option.some.inj h) rfl dX6_count_181
        replace h := it_f c27 h
        by_cases c28 : l1 = 14
        · replace h := it_t c28 h
          refine lv_tableIn (off := 130) (tgt := 166) hx hb dX6_count_36 (by rw [c28]; decide) (by rw [c28]; decide) (by rw [c28]; rfl) (by decide) ?_
          refine lv_aload_n hx hb dX6_count_166 rfl (lv_at hl 0 rfl) ?_
          refine gC_8_4 hx_E hw fl_X6_54 dX6_count_167 ?_
          refine gC_20_6 hx_E hw fl_X6_143 dX6_count_170 ?_
          exact hE hw (Option.some.inj h) rfl dX6_count_173
        replace h := it_f c28 h
        refine lv_tableOut (tgt := 174) hx hb dX6_count_36 (sw_out0_14 c14 c15 c16 c17 c18 c19 c20 c21 c22 c23 c24 c25 c26 c27 c28) (by decide) ?_
        refine lv_aload_n hx hb dX6_count_174 rfl (lv_at hl 0 rfl) ?_
        refine gC_8_5 hx_E hw fl_X6_61 dX6_count_175 ?_
        refine gC_27_2 hx_E hw fl_X6_73 dX6_count_178 ?_
        exact hE hw (Option.some.inj h) rfl dX6_count_181
      replace h := h9
      refine lv_icmp_lt (tgt := 35) hx hb dX6_count_16 (by decide) (fun c3 => ?_) (fun c3 => ?_)
      · replace h := it_t c3 h
        have e9 := Option.some.inj h
        subst e9
        exact hJ4 () rfl  H locs ls hw (lv_sub hl [0, 1] rfl)
      · replace h := it_f c3 h
        refine lv_iload_n hx hb dX6_count_19 rfl (lv_at hl 1 rfl) ?_
        refine lv_bipush (v := 14) hx hb dX6_count_20 (by decide) ?_
        refine lv_icmp_ge (tgt := 35) hx hb dX6_count_22 (by decide) (fun c6 => ?_) (fun c6 => ?_)
        · replace h := it_t c6 h
          have e9 := Option.some.inj h
          subst e9
          exact hJ4 () rfl  H locs ls hw (lv_sub hl [0, 1] rfl)
        · replace h := it_f c6 h
          refine lv_aload_n hx hb dX6_count_25 rfl (lv_at hl 0 rfl) ?_
          refine gC_8_6 hx_E hw fl_X6_65 dX6_count_26 ?_
          refine lv_iload_n hx hb dX6_count_29 rfl (lv_at hl 1 rfl) ?_
          refine lv_bipush (v := 6) hx hb dX6_count_30 (by decide) ?_
          refine lv_isub hx hb dX6_count_32 ?_
          obtain ⟨g7, h⟩ := it_g h
          refine aC_9 hx_E hw g7 dX6_count_33 ?_
          have e9 := Option.some.inj h
          subst e9
          replace h := h_φ5
          exact hE hw (Option.some.inj h) rfl dX6_count_34
    · replace h := it_f c2 h
      refine lv_bipush (v := -2) hx hb dX6_count_10 (by decide) ?_
      exact hE hw (Option.some.inj h) rfl dX6_count_12
set_option maxHeartbeats 4000000 in
set_option maxRecDepth 100000 in
theorem c_X6_addHints (l : Launch) (K : vK) (ad : Nat → Nat) (hI : adInj 30 ad) (l1 : Int64) (σ : vSt) {r : Int64} {σ' : vSt} (h : f_X6_addHints l1 σ = some (r, σ')) : MCl l yX6_addHints (wsY yX6_addHints cX6_addHints 9 (some .long)) (rmF 6 121) K 30 ad (cC K ad) [.ref (ad 8), .long l1] σ r σ' := by
  refine MCl_of (own := RX6) (plainFor_of_name (by decide)) hI rfl (Nat.le_of_ble_eq_true rfl) ?_
  intro p e s m args below meth c A Q hx_E hE H locs ls hw hl
  have hx := hx_E.1; have hb := hx_E.2.1; have hown := hx_E.2.2.2.1; have hts := hx_E.2.2.2.2.1
  replace hl : lv_has ls 9 [(0, .ref (ad 8)), (1, .long l1)] := hl
  unfold f_X6_addHints at h
  refine lv_lload_n hx hb dX6_addHints_0 rfl (lv_at hl 1 rfl) ?_
  refine lv_lstore_n (lv' := [(3, .long l1), (0, .ref (ad 8)), (1, .long l1)]) hx hb dX6_addHints_1 rfl hl (by decide) rfl (fun ls hl => ?_)
  refine lv_aload_n hx hb dX6_addHints_2 rfl (lv_at hl 1 rfl) ?_
  refine gC_8_1 hx_E hw fl_X6_33 dX6_addHints_3 ?_
  obtain ⟨v1, k2, h⟩ := it_b h
  refine kV_z (As := []) (rest := []) (q := 6) hx_E hw (c_X0_fits l K 30 ad hI 6 isB_6  σ k2) mi_X0_fits mv_X0_fits ml_X6_129 (by decide) rfl rfl rfl ⟨⟨Nat.le_of_ble_eq_true rfl, Nat.le_of_ble_eq_true rfl⟩, rfl, rfl⟩ ⟨Nat.zero_le _, Nat.zero_le _⟩ hl.1 rfl (Nat.le_of_ble_eq_true rfl) dX6_addHints_6 (fun z3 H locs hw => ?_)
  refine lv_istore (lv' := [(5, .int v1), (3, .long l1), (0, .ref (ad 8)), (1, .long l1)]) hx hb dX6_addHints_9 hl (by decide) rfl (fun ls hl => ?_)
  refine lv_iload hx hb dX6_addHints_11 (lv_at hl 0 rfl) ?_
  obtain ⟨φ8, h9, h_φ8⟩ := it_b h
  have hJ7 : ∀ (v5 : Int32) (σ6 : vSt), (v5, σ6) = φ8 → (v5 = 0 ∨ v5 = 1) → ∀ (H : Heap) (locs : List Loc) (ls : Array Slot), PW K 30 ad (cC K ad) A s.heap σ6 H locs → lv_has ls 9 [(0, .ref (ad 8)), (3, .long l1), (5, .int v1)] → W p l e (rmF 6 121) s m args below meth c H locs 0 0 Q (F0 m 37 ls [.int v5]) := by
    intro v5 σ6 e9 z_v5 H locs ls hw hl
    subst e9
    replace h := h_φ8
    refine lv_istore (lv' := [(6, .int v5), (0, .ref (ad 8)), (3, .long l1), (5, .int v1)]) hx hb dX6_addHints_37 hl (by decide) rfl (fun ls hl => ?_)
    refine lv_iconst (v := 0) hx hb dX6_addHints_39 (by decide) ?_
    refine lv_istore (lv' := [(7, .int (0 : Int32)), (6, .int v5), (0, .ref (ad 8)), (3, .long l1), (5, .int v1)]) hx hb dX6_addHints_40 hl (by decide) rfl (fun ls hl => ?_)
    obtain ⟨φ19, h9, h_φ19⟩ := it_b h
    have hJ18 : ∀ (v16 : Int64), v16 = φ19 → ∀ (H : Heap) (locs : List Loc) (ls : Array Slot), PW K 30 ad (cC K ad) A s.heap σ6 H locs → lv_has ls 9 [(3, .long v16)] → W p l e (rmF 6 121) s m args below meth c H locs 0 0 Q (F0 m 91 ls []) := by
      intro v16 e9 H locs ls hw hl
      subst e9
      replace h := h_φ19
      refine lv_lload_n hx hb dX6_addHints_91 rfl (lv_at hl 0 rfl) ?_
      exact hE hw (congrArg Prod.fst (Option.some.inj h)) (congrArg Prod.snd (Option.some.inj h)) dX6_addHints_92
    have hL17 : ∀ (n9 : Nat) (v14 : Int64) (v15 : Int32), ∀ (H : Heap) (locs : List Loc) (ls : Array Slot), f_X6_addHints_42 v5 v1 σ6 n9 v14 v15 = some φ19 → PW K 30 ad (cC K ad) A s.heap σ6 H locs → lv_has ls 9 [(0, .ref (ad 8)), (3, .long v14), (5, .int v1), (6, .int v5), (7, .int v15)] → W p l e (rmF 6 121) s m args below meth c H locs 0 0 Q (F0 m 42 ls []) := by
      intro n9
      induction n9 with
      | zero => intro v14 v15 H locs ls h hw hl; rw [f_X6_addHints_42.eq_1] at h; exact it_n h
      | succ n9 ih =>
        intro v14 v15 H locs ls h hw hl
        rw [f_X6_addHints_42.eq_2] at h
        refine lv_iload hx hb dX6_addHints_42 (lv_at hl 4 rfl) ?_
        refine lv_iconst (v := 3) hx hb dX6_addHints_44 (by decide) ?_
        refine lv_icmp_gt (tgt := 91) hx hb dX6_addHints_45 (by decide) (fun c20 => ?_) (fun c20 => ?_)
        · replace h := it_t c20 h
          have e9 := Option.some.inj h
          subst e9
          exact hJ18 _ rfl  H locs ls hw (lv_sub hl [1] rfl)
        · replace h := it_f c20 h
          refine lv_iload hx hb dX6_addHints_48 (lv_at hl 3 rfl) ?_
          obtain ⟨φ24, h9, h_φ24⟩ := it_b h
          have hJ23 : ∀ (v22 : Int32), v22 = φ24 → ∀ (H : Heap) (locs : List Loc) (ls : Array Slot), PW K 30 ad (cC K ad) A s.heap σ6 H locs → lv_has ls 9 [(0, .ref (ad 8)), (3, .long v14), (5, .int v1), (6, .int v5), (7, .int v15)] → W p l e (rmF 6 121) s m args below meth c H locs 0 0 Q (F0 m 73 ls [.int v22]) := by
            intro v22 e9 H locs ls hw hl
            subst e9
            replace h := h_φ24
            refine lv_istore (lv' := [(8, .int v22), (0, .ref (ad 8)), (3, .long v14), (5, .int v1), (6, .int v5), (7, .int v15)]) hx hb dX6_addHints_73 hl (by decide) rfl (fun ls hl => ?_)
            refine lv_ldc2 (v := 31) hx hb hown (hts _ kl_X6_212) dX6_addHints_75 ?_
            refine lv_lload_n hx hb dX6_addHints_78 rfl (lv_at hl 2 rfl) ?_
            refine lv_lmul hx hb dX6_addHints_79 ?_
            refine lv_iload hx hb dX6_addHints_80 (lv_at hl 0 rfl) ?_
            refine lv_i2l (v := v22.toInt64) hx hb dX6_addHints_82 rfl ?_
            refine lv_ladd hx hb dX6_addHints_83 ?_
            obtain ⟨v28, e_v28, h⟩ := it_b h
            refine lt_topl (Option.some.inj e_v28) ?_
            refine lv_lstore_n (lv' := [(3, .long v28), (8, .int v22), (0, .ref (ad 8)), (5, .int v1), (6, .int v5), (7, .int v15)]) hx hb dX6_addHints_84 rfl hl (by decide) rfl (fun ls hl => ?_)
            refine lv_iinc (v := (v15 + 1)) (lv' := [(7, .int (v15 + 1)), (3, .long v28), (8, .int v22), (0, .ref (ad 8)), (5, .int v1), (6, .int v5)]) hx hb dX6_addHints_85 hl (k := 5) rfl rfl (by decide) rfl (fun ls hl => ?_)
            refine lv_goto (tgt := 42) hx hb dX6_addHints_88 (by decide) ?_
            exact ih _ _   H locs ls h hw (lv_sub hl [3, 1, 4, 5, 0] rfl)
          replace h := h9
          refine lv_if_eq (tgt := 62) hx hb dX6_addHints_50 (by decide) (fun c21 => ?_) (fun c21 => ?_)
          · replace h := it_t c21 h
            refine lv_iload hx hb dX6_addHints_62 (lv_at hl 2 rfl) ?_
            refine lv_if_eq (tgt := 71) hx hb dX6_addHints_64 (by decide) (fun c25 => ?_) (fun c25 => ?_)
            · replace h := it_t c25 h
              refine lv_bipush (v := -3) hx hb dX6_addHints_71 (by decide) ?_
              have e9 := Option.some.inj h
              subst e9
              exact hJ23 _ rfl  H locs ls hw (lv_sub hl [0, 1, 2, 3, 4] rfl)
            · replace h := it_f c25 h
              refine lv_iconst (v := -1) hx hb dX6_addHints_67 (by decide) ?_
              refine lv_goto (tgt := 73) hx hb dX6_addHints_68 (by decide) ?_
              have e9 := Option.some.inj h
              subst e9
              exact hJ23 _ rfl  H locs ls hw (lv_sub hl [0, 1, 2, 3, 4] rfl)
          · replace h := it_f c21 h
            refine lv_aload_n hx hb dX6_addHints_53 rfl (lv_at hl 0 rfl) ?_
            refine lv_iload hx hb dX6_addHints_54 (lv_at hl 4 rfl) ?_
            obtain ⟨v26, k27, h⟩ := it_b h
            refine kV_i (As := [.int v15]) (rest := []) (q := 8) hx_E hw (c_X6_foundPart l K ad hI  v15 σ6 k27) mi_X6_foundPart mv_X6_foundPart ml_X6_174 (by decide) rfl rfl rfl ⟨⟨Nat.le_of_ble_eq_true rfl, Nat.le_of_ble_eq_true rfl⟩, rfl, rfl⟩ ⟨Nat.zero_le _, Nat.zero_le _⟩ hl.1 rfl (Nat.le_of_ble_eq_true rfl) dX6_addHints_56 (fun H locs hw => ?_)
            refine lv_goto (tgt := 73) hx hb dX6_addHints_59 (by decide) ?_
            have e9 := Option.some.inj h
            subst e9
            exact hJ23 _ rfl  H locs ls hw (lv_sub hl [0, 1, 2, 3, 4] rfl)
    exact hL17 600 _ _  H locs ls h9 hw (lv_sub hl [2, 3, 4, 1, 0] rfl)
  replace h := h9
  refine lv_if_eq (tgt := 36) hx hb dX6_addHints_13 (by decide) (fun c4 => ?_) (fun c4 => ?_)
  · replace h := it_t c4 h
    refine lv_iconst (v := 0) hx hb dX6_addHints_36 (by decide) ?_
    have e9 := Option.some.inj h
    subst e9
    exact hJ7 _ _ rfl (Or.inl rfl) H locs ls hw (lv_sub hl [2, 1, 0] rfl)
  · replace h := it_f c4 h
    refine lv_aload_n hx hb dX6_addHints_16 rfl (lv_at hl 2 rfl) ?_
    refine gC_8_2 hx_E hw fl_X6_40 dX6_addHints_17 ?_
    refine lv_aload_n hx hb dX6_addHints_20 rfl (lv_at hl 2 rfl) ?_
    refine gC_8_1 hx_E hw fl_X6_33 dX6_addHints_21 ?_
    refine lv_bipush (v := 7) hx hb dX6_addHints_24 (by decide) ?_
    obtain ⟨⟨v9, σ10⟩, k11, h⟩ := it_b h
    refine kV_z (As := [.ref (ad 6), .int (7 : Int32)]) (rest := []) (q := 10) hx_E hw (c_X4_findNext l K ad hI 6 isB_6 (7 : Int32) σ k11) mi_X4_findNext mv_X4_findNext ml_X6_133 (by decide) rfl rfl rfl ⟨⟨Nat.le_of_ble_eq_true rfl, Nat.le_of_ble_eq_true rfl⟩, rfl, rfl⟩ ⟨Nat.zero_le _, Nat.zero_le _⟩ hl.1 rfl (Nat.le_of_ble_eq_true rfl) dX6_addHints_26 (fun z12 H locs hw => ?_)
    refine lv_if_eq (tgt := 36) hx hb dX6_addHints_29 (by decide) (fun c13 => ?_) (fun c13 => ?_)
    · replace h := it_t c13 h
      refine lv_iconst (v := 0) hx hb dX6_addHints_36 (by decide) ?_
      have e9 := Option.some.inj h
      subst e9
      exact hJ7 _ _ rfl (Or.inl rfl) H locs ls hw (lv_sub hl [2, 1, 0] rfl)
    · replace h := it_f c13 h
      refine lv_iconst (v := 1) hx hb dX6_addHints_32 (by decide) ?_
      refine lv_goto (tgt := 37) hx hb dX6_addHints_33 (by decide) ?_
      have e9 := Option.some.inj h
      subst e9
      exact hJ7 _ _ rfl (Or.inr rfl) H locs ls hw (lv_sub hl [2, 1, 0] rfl)
