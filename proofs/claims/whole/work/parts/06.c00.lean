set_option maxHeartbeats 4000000 in
theorem c_X6_becomes (l : Launch) (K : vK) (l0 : Int32) {r : Int32} (h : f_X6_becomes l0 = some r) : MCi l yX6_becomes (wsY yX6_becomes cX6_becomes 1 (some .int)) (rmF 1 0) K 0 ad_0 (cf_0) [.int l0] st_0 r st_0 := by
  refine MCi_of (own := RX6) (by decide) adInj_0 rfl (Nat.le_of_ble_eq_true rfl) ?_
  intro p e s m args below meth c A Q hx_E hE H locs ls hw hl
  have hx := hx_E.1; have hb := hx_E.2.1; have hown := hx_E.2.2.2.1; have hts := hx_E.2.2.2.2.1
  replace hl : lv_has ls 1 [(0, .int l0)] := hl
  unfold f_X6_becomes at h
  have hz : ∀ v : Int32, some v = some r → ∀ (H : Heap) (locs : List Loc) (ls : Array Slot), PW K 0 ad_0 (cf_0) A s.heap st_0 H locs → W p l e (rmF 1 0) s m args below meth c H locs 0 0 Q (F0 m 19 ls [.int v]) := fun v h H locs ls hw => hE hw (Option.some.inj h) rfl dX6_becomes_19
  refine lv_iload_n hx hb dX6_becomes_0 rfl (lv_at hl 0 rfl) ?_
  refine lv_if_lt (tgt := 18) hx hb dX6_becomes_1 (by decide) (fun c1 => ?_) (fun c1 => ?_)
  · replace h := it_t c1 h
    refine lv_iconst (v := 0) hx hb dX6_becomes_18 (by decide) ?_
    exact hz _ h _ _ _ hw
  · replace h := it_f c1 h
    refine lv_iload_n hx hb dX6_becomes_4 rfl (lv_at hl 0 rfl) ?_
    refine lv_bipush (v := 8) hx hb dX6_becomes_5 (by decide) ?_
    refine lv_icmp_ge (tgt := 18) hx hb dX6_becomes_7 (by decide) (fun c2 => ?_) (fun c2 => ?_)
    · replace h := it_t c2 h
      refine lv_iconst (v := 0) hx hb dX6_becomes_18 (by decide) ?_
      exact hz _ h _ _ _ hw
    · replace h := it_f c2 h
      obtain ⟨g3, h⟩ := it_g h
      obtain ⟨t, hZ, hT⟩ := hx_E.2.2.2.2.2.2.2.2.2.2.2.2.1
      refine va_gets hx hb hZ hw.2 hown (hts _ fl_X6_237) (fun _ h9 => h9) dX6_becomes_10 ?_
      refine lv_iload_n hx hb dX6_becomes_13 rfl (lv_at hl 0 rfl) ?_
      refine va_ti hx hb hT hw.2 (vp_in_iff.mpr g3) (v := .int (t_becI l0.toNatClampNeg)) rfl dX6_becomes_14 ?_
      refine lv_goto (tgt := 19) hx hb dX6_becomes_15 (by decide) ?_
      exact hz _ h _ _ _ hw
set_option maxHeartbeats 4000000 in
theorem c_X6_gradeOf (l : Launch) (K : vK) (l0 : Int32) {r : Int32} (h : f_X6_gradeOf l0 = some r) : MCi l yX6_gradeOf (wsY yX6_gradeOf cX6_gradeOf 1 (some .int)) (rmF 1 0) K 0 ad_0 (cf_0) [.int l0] st_0 r st_0 := by
  refine MCi_of (own := RX6) (by decide) adInj_0 rfl (Nat.le_of_ble_eq_true rfl) ?_
  intro p e s m args below meth c A Q hx_E hE H locs ls hw hl
  have hx := hx_E.1; have hb := hx_E.2.1; have hown := hx_E.2.2.2.1; have hts := hx_E.2.2.2.2.1
  replace hl : lv_has ls 1 [(0, .int l0)] := hl
  unfold f_X6_gradeOf at h
  have hz : ∀ v : Int32, some v = some r → ∀ (H : Heap) (locs : List Loc) (ls : Array Slot), PW K 0 ad_0 (cf_0) A s.heap st_0 H locs → W p l e (rmF 1 0) s m args below meth c H locs 0 0 Q (F0 m 19 ls [.int v]) := fun v h H locs ls hw => hE hw (Option.some.inj h) rfl dX6_gradeOf_19
  refine lv_iload_n hx hb dX6_gradeOf_0 rfl (lv_at hl 0 rfl) ?_
  refine lv_if_lt (tgt := 18) hx hb dX6_gradeOf_1 (by decide) (fun c1 => ?_) (fun c1 => ?_)
  · replace h := it_t c1 h
    refine lv_iconst (v := 0) hx hb dX6_gradeOf_18 (by decide) ?_
    exact hz _ h _ _ _ hw
  · replace h := it_f c1 h
    refine lv_iload_n hx hb dX6_gradeOf_4 rfl (lv_at hl 0 rfl) ?_
    refine lv_bipush (v := 8) hx hb dX6_gradeOf_5 (by decide) ?_
    refine lv_icmp_ge (tgt := 18) hx hb dX6_gradeOf_7 (by decide) (fun c2 => ?_) (fun c2 => ?_)
    · replace h := it_t c2 h
      refine lv_iconst (v := 0) hx hb dX6_gradeOf_18 (by decide) ?_
      exact hz _ h _ _ _ hw
    · replace h := it_f c2 h
      obtain ⟨g3, h⟩ := it_g h
      obtain ⟨t, hZ, hT⟩ := hx_E.2.2.2.2.2.2.2.2.2.2.2.2.2
      refine va_gets hx hb hZ hw.2 hown (hts _ fl_X6_240) (fun _ h9 => h9) dX6_gradeOf_10 ?_
      refine lv_iload_n hx hb dX6_gradeOf_13 rfl (lv_at hl 0 rfl) ?_
      refine va_ti hx hb hT hw.2 (vp_in_iff.mpr g3) (v := .int (t_graI l0.toNatClampNeg)) rfl dX6_gradeOf_14 ?_
      refine lv_goto (tgt := 19) hx hb dX6_gradeOf_15 (by decide) ?_
      exact hz _ h _ _ _ hw
set_option maxHeartbeats 4000000 in
set_option maxRecDepth 100000 in
theorem c_J13_bitCount_95d88 (l : Launch) (K : vK) (l0 : Int64) {r : Int32} (h : f_J13_bitCount_95d88 l0 = some r) : MCi l yJ13_bitCount_95d88 (wsY yJ13_bitCount_95d88 cJ13_bitCount_95d88 2 (some .int)) (rmF 1 0) K 0 ad_0 (cf_0) [.long l0] st_0 r st_0 := by
  refine MCi_of (own := RJ13) (by decide) adInj_0 rfl (Nat.le_of_ble_eq_true rfl) ?_
  intro p e s m args below meth c A Q hx_E hE H locs ls hw hl
  have hx := hx_E.1; have hb := hx_E.2.1; have hown := hx_E.2.2.2.1; have hts := hx_E.2.2.2.2.1
  replace hl : lv_has ls 2 [(0, .long l0)] := hl
  unfold f_J13_bitCount_95d88 at h
  refine lv_lload_n hx hb dJ13_bitCount_95d88_0 rfl (lv_at hl 0 rfl) ?_
  refine lv_lload_n hx hb dJ13_bitCount_95d88_1 rfl (lv_at hl 0 rfl) ?_
  refine lv_iconst (v := 1) hx hb dJ13_bitCount_95d88_2 (by decide) ?_
  refine lv_lushr (v := (o_lushr l0 (1 : Int32))) hx hb dJ13_bitCount_95d88_3 rfl ?_
  refine lv_ldc2 (v := 6148914691236517205) hx hb hown (hts _ kl_J13_314) dJ13_bitCount_95d88_4 ?_
  refine lv_land hx hb dJ13_bitCount_95d88_7 ?_
  refine lv_lsub hx hb dJ13_bitCount_95d88_8 ?_
  obtain ⟨v1, e_v1, h⟩ := it_b h
  refine lt_topl (Option.some.inj e_v1) ?_
  refine lv_lstore_n (lv' := [(0, .long v1)]) hx hb dJ13_bitCount_95d88_9 rfl hl (by decide) rfl (fun ls hl => ?_)
  refine lv_lload_n hx hb dJ13_bitCount_95d88_10 rfl (lv_at hl 0 rfl) ?_
  refine lv_ldc2 (v := 3689348814741910323) hx hb hown (hts _ kl_J13_316) dJ13_bitCount_95d88_11 ?_
  refine lv_land hx hb dJ13_bitCount_95d88_14 ?_
  refine lv_lload_n hx hb dJ13_bitCount_95d88_15 rfl (lv_at hl 0 rfl) ?_
  refine lv_iconst (v := 2) hx hb dJ13_bitCount_95d88_16 (by decide) ?_
  refine lv_lushr (v := (o_lushr v1 (2 : Int32))) hx hb dJ13_bitCount_95d88_17 rfl ?_
  refine lv_ldc2 (v := 3689348814741910323) hx hb hown (hts _ kl_J13_316) dJ13_bitCount_95d88_18 ?_
  refine lv_land hx hb dJ13_bitCount_95d88_21 ?_
  refine lv_ladd hx hb dJ13_bitCount_95d88_22 ?_
  obtain ⟨v2, e_v2, h⟩ := it_b h
  refine lt_topl (Option.some.inj e_v2) ?_
  refine lv_lstore_n (lv' := [(0, .long v2)]) hx hb dJ13_bitCount_95d88_23 rfl hl (by decide) rfl (fun ls hl => ?_)
  refine lv_lload_n hx hb dJ13_bitCount_95d88_24 rfl (lv_at hl 0 rfl) ?_
  refine lv_lload_n hx hb dJ13_bitCount_95d88_25 rfl (lv_at hl 0 rfl) ?_
  refine lv_iconst (v := 4) hx hb dJ13_bitCount_95d88_26 (by decide) ?_
  refine lv_lushr (v := (o_lushr v2 (4 : Int32))) hx hb dJ13_bitCount_95d88_27 rfl ?_
  refine lv_ladd hx hb dJ13_bitCount_95d88_28 ?_
  refine lv_ldc2 (v := 1085102592571150095) hx hb hown (hts _ kl_J13_318) dJ13_bitCount_95d88_29 ?_
  refine lv_land hx hb dJ13_bitCount_95d88_32 ?_
  obtain ⟨v3, e_v3, h⟩ := it_b h
  refine lt_topl (Option.some.inj e_v3) ?_
  refine lv_lstore_n (lv' := [(0, .long v3)]) hx hb dJ13_bitCount_95d88_33 rfl hl (by decide) rfl (fun ls hl => ?_)
  refine lv_lload_n hx hb dJ13_bitCount_95d88_34 rfl (lv_at hl 0 rfl) ?_
  refine lv_lload_n hx hb dJ13_bitCount_95d88_35 rfl (lv_at hl 0 rfl) ?_
  refine lv_bipush (v := 8) hx hb dJ13_bitCount_95d88_36 (by decide) ?_
  refine lv_lushr (v := (o_lushr v3 (8 : Int32))) hx hb dJ13_bitCount_95d88_38 rfl ?_
  refine lv_ladd hx hb dJ13_bitCount_95d88_39 ?_
  obtain ⟨v4, e_v4, h⟩ := it_b h
  refine lt_topl (Option.some.inj e_v4) ?_
  refine lv_lstore_n (lv' := [(0, .long v4)]) hx hb dJ13_bitCount_95d88_40 rfl hl (by decide) rfl (fun ls hl => ?_)
  refine lv_lload_n hx hb dJ13_bitCount_95d88_41 rfl (lv_at hl 0 rfl) ?_
  refine lv_lload_n hx hb dJ13_bitCount_95d88_42 rfl (lv_at hl 0 rfl) ?_
  refine lv_bipush (v := 16) hx hb dJ13_bitCount_95d88_43 (by decide) ?_
  refine lv_lushr (v := (o_lushr v4 (16 : Int32))) hx hb dJ13_bitCount_95d88_45 rfl ?_
  refine lv_ladd hx hb dJ13_bitCount_95d88_46 ?_
  obtain ⟨v5, e_v5, h⟩ := it_b h
  refine lt_topl (Option.some.inj e_v5) ?_
  refine lv_lstore_n (lv' := [(0, .long v5)]) hx hb dJ13_bitCount_95d88_47 rfl hl (by decide) rfl (fun ls hl => ?_)
  refine lv_lload_n hx hb dJ13_bitCount_95d88_48 rfl (lv_at hl 0 rfl) ?_
  refine lv_lload_n hx hb dJ13_bitCount_95d88_49 rfl (lv_at hl 0 rfl) ?_
  refine lv_bipush (v := 32) hx hb dJ13_bitCount_95d88_50 (by decide) ?_
  refine lv_lushr (v := (o_lushr v5 (32 : Int32))) hx hb dJ13_bitCount_95d88_52 rfl ?_
  refine lv_ladd hx hb dJ13_bitCount_95d88_53 ?_
  obtain ⟨v6, e_v6, h⟩ := it_b h
  refine lt_topl (Option.some.inj e_v6) ?_
  refine lv_lstore_n (lv' := [(0, .long v6)]) hx hb dJ13_bitCount_95d88_54 rfl hl (by decide) rfl (fun ls hl => ?_)
  refine lv_lload_n hx hb dJ13_bitCount_95d88_55 rfl (lv_at hl 0 rfl) ?_
  refine lv_l2i (v := v6.toInt32) hx hb dJ13_bitCount_95d88_56 rfl ?_
  refine lv_bipush (v := 127) hx hb dJ13_bitCount_95d88_57 (by decide) ?_
  refine lv_iand hx hb dJ13_bitCount_95d88_59 ?_
  exact hE hw (Option.some.inj h) rfl dJ13_bitCount_95d88_60
set_option maxHeartbeats 4000000 in
set_option maxRecDepth 100000 in
theorem c_X6_leastOf (l : Launch) (K : vK) (l0 : Int64) {r : Int32} (h : f_X6_leastOf l0 = some r) : MCi l yX6_leastOf (wsY yX6_leastOf cX6_leastOf 2 (some .int)) (rmF 2 21) K 0 ad_0 (cf_0) [.long l0] st_0 r st_0 := by
  refine MCi_of (own := RX6) (by decide) adInj_0 rfl (Nat.le_of_ble_eq_true rfl) ?_
  intro p e s m args below meth c A Q hx_E hE H locs ls hw hl
  have hx := hx_E.1; have hb := hx_E.2.1; have hown := hx_E.2.2.2.1; have hts := hx_E.2.2.2.2.1
  replace hl : lv_has ls 2 [(0, .long l0)] := hl
  unfold f_X6_leastOf at h
  refine lv_lload_n hx hb dX6_leastOf_0 rfl (lv_at hl 0 rfl) ?_
  refine lv_lconst (v := 0) hx hb dX6_leastOf_1 (by decide) ?_
  refine W.lcmp hx hb dX6_leastOf_2 ?_
  refine lv_if_ne (tgt := 10) hx hb dX6_leastOf_3 (by decide) (fun c1 => ?_) (fun c1 => ?_)
  · replace h := it_f c1 h
    refine lv_lload_n hx hb dX6_leastOf_10 rfl (lv_at hl 0 rfl) ?_
    refine lv_lload_n hx hb dX6_leastOf_11 rfl (lv_at hl 0 rfl) ?_
    refine lv_lneg hx hb dX6_leastOf_12 ?_
    refine lv_land hx hb dX6_leastOf_13 ?_
    refine lv_lconst (v := 1) hx hb dX6_leastOf_14 (by decide) ?_
    refine lv_lsub hx hb dX6_leastOf_15 ?_
    obtain ⟨v2, k3, h⟩ := it_b h
    refine kS_i (As := [.long ((l0 &&& (-l0)) - (1 : Int64))]) (rest := []) hx_E hw (c_J13_bitCount_95d88 l K ((l0 &&& (-l0)) - (1 : Int64)) k3) mi_J13_bitCount_95d88 sm_J13_bitCount_95d88 ml_X6_123 rfl ⟨⟨Nat.le_of_ble_eq_true rfl, Nat.le_of_ble_eq_true rfl⟩, rfl, rfl⟩ ⟨Nat.zero_le _, Nat.zero_le _⟩ hl.1 rfl (Nat.le_of_ble_eq_true rfl) dX6_leastOf_16 (fun H locs hw => ?_)
    exact hE hw (Option.some.inj h) rfl dX6_leastOf_19
  · replace h := it_t c1 h
    refine lv_iconst (v := -1) hx hb dX6_leastOf_6 (by decide) ?_
    refine lv_goto (tgt := 19) hx hb dX6_leastOf_7 (by decide) ?_
    exact hE hw (Option.some.inj h) rfl dX6_leastOf_19
set_option maxHeartbeats 4000000 in
set_option maxRecDepth 100000 in
theorem c_X7_in (l : Launch) (K : vK) (l0 : Int32) (l1 : Int32) (l2 : Int32) {r : Int32} (h : f_X7_in l0 l1 l2 = some r) : MCz l yX7_in (wsY yX7_in cX7_in 3 (some .boolean)) (rmF 1 0) K 0 ad_0 (cf_0) [.int l0, .int l1, .int l2] st_0 r st_0 := by
  refine MCz_of (own := RX7) (by decide) adInj_0 rfl (Nat.le_of_ble_eq_true rfl) ?_
  intro p e s m args below meth c A Q hx_E hE H locs ls hw hl
  have hx := hx_E.1; have hb := hx_E.2.1; have hown := hx_E.2.2.2.1; have hts := hx_E.2.2.2.2.1
  replace hl : lv_has ls 3 [(0, .int l0), (1, .int l1), (2, .int l2)] := hl
  unfold f_X7_in at h
  refine lv_iload_n hx hb dX7_in_0 rfl (lv_at hl 0 rfl) ?_
  refine lv_iload_n hx hb dX7_in_1 rfl (lv_at hl 1 rfl) ?_
  refine lv_icmp_lt (tgt := 14) hx hb dX7_in_2 (by decide) (fun c1 => ?_) (fun c1 => ?_)
  · replace h := it_t c1 h
    refine lv_iconst (v := 0) hx hb dX7_in_14 (by decide) ?_
    exact hE hw (Option.some.inj h) rfl (Or.inl rfl) dX7_in_15
  · replace h := it_f c1 h
    refine lv_iload_n hx hb dX7_in_5 rfl (lv_at hl 0 rfl) ?_
    refine lv_iload_n hx hb dX7_in_6 rfl (lv_at hl 2 rfl) ?_
    refine lv_icmp_gt (tgt := 14) hx hb dX7_in_7 (by decide) (fun c2 => ?_) (fun c2 => ?_)
    · replace h := it_t c2 h
      refine lv_iconst (v := 0) hx hb dX7_in_14 (by decide) ?_
      exact hE hw (Option.some.inj h) rfl (Or.inl rfl) dX7_in_15
    · replace h := it_f c2 h
      refine lv_iconst (v := 1) hx hb dX7_in_10 (by decide) ?_
      refine lv_goto (tgt := 15) hx hb dX7_in_11 (by decide) ?_
      exact hE hw (Option.some.inj h) rfl (Or.inr rfl) dX7_in_15
set_option maxHeartbeats 4000000 in
set_option maxRecDepth 100000 in
theorem c_X7_cells (l : Launch) (K : vK) (ad : Nat → Nat) (hI : adInj 12 ad) (σ : vSt) {r : Int32} (h : f_X7_cells σ = some r) : MCi l yX7_cells (wsY yX7_cells cX7_cells 1 (some .int)) (rmF 1 0) K 12 ad (cM K ad) [.ref (ad 0)] σ r σ := by
  refine MCi_of (own := RX7) (by decide) hI rfl (Nat.le_of_ble_eq_true rfl) ?_
  intro p e s m args below meth c A Q hx_E hE H locs ls hw hl
  have hx := hx_E.1; have hb := hx_E.2.1; have hown := hx_E.2.2.2.1; have hts := hx_E.2.2.2.2.1
  replace hl : lv_has ls 1 [(0, .ref (ad 0))] := hl
  unfold f_X7_cells at h
  refine lv_aload_n hx hb dX7_cells_0 rfl (lv_at hl 0 rfl) ?_
  refine gM_0_0 hx_E hw fl_X7_7 dX7_cells_1 ?_
  refine lv_iconst (v := 0) hx hb dX7_cells_4 (by decide) ?_
  refine acM_1 hx_E hw (by decide) rfl dX7_cells_5 ?_
  refine lv_aload_n hx hb dX7_cells_6 rfl (lv_at hl 0 rfl) ?_
  refine gM_0_0 hx_E hw fl_X7_7 dX7_cells_7 ?_
  refine lv_iconst (v := 1) hx hb dX7_cells_10 (by decide) ?_
  refine acM_1 hx_E hw (by decide) rfl dX7_cells_11 ?_
  refine lv_imul hx hb dX7_cells_12 ?_
  exact hE hw (Option.some.inj h) rfl dX7_cells_13
set_option maxHeartbeats 4000000 in
set_option maxRecDepth 100000 in
theorem c_X7_vertical (l : Launch) (K : vK) (ad : Nat → Nat) (hI : adInj 12 ad) (σ : vSt) {r : Int32} (h : f_X7_vertical σ = some r) : MCi l yX7_vertical (wsY yX7_vertical cX7_vertical 1 (some .int)) (rmF 1 0) K 12 ad (cM K ad) [.ref (ad 0)] σ r σ := by
  refine MCi_of (own := RX7) (by decide) hI rfl (Nat.le_of_ble_eq_true rfl) ?_
  intro p e s m args below meth c A Q hx_E hE H locs ls hw hl
  have hx := hx_E.1; have hb := hx_E.2.1; have hown := hx_E.2.2.2.1; have hts := hx_E.2.2.2.2.1
  replace hl : lv_has ls 1 [(0, .ref (ad 0))] := hl
  unfold f_X7_vertical at h
  refine lv_aload_n hx hb dX7_vertical_0 rfl (lv_at hl 0 rfl) ?_
  refine gM_0_0 hx_E hw fl_X7_7 dX7_vertical_1 ?_
  refine lv_iconst (v := 1) hx hb dX7_vertical_4 (by decide) ?_
  refine acM_1 hx_E hw (by decide) rfl dX7_vertical_5 ?_
  refine lv_iconst (v := 1) hx hb dX7_vertical_6 (by decide) ?_
  refine lv_iadd hx hb dX7_vertical_7 ?_
  refine lv_aload_n hx hb dX7_vertical_8 rfl (lv_at hl 0 rfl) ?_
  refine gM_0_0 hx_E hw fl_X7_7 dX7_vertical_9 ?_
  refine lv_iconst (v := 0) hx hb dX7_vertical_12 (by decide) ?_
  refine acM_1 hx_E hw (by decide) rfl dX7_vertical_13 ?_
  refine lv_imul hx hb dX7_vertical_14 ?_
  exact hE hw (Option.some.inj h) rfl dX7_vertical_15
set_option maxHeartbeats 4000000 in
set_option maxRecDepth 100000 in
theorem c_X7_edges (l : Launch) (K : vK) (ad : Nat → Nat) (hI : adInj 12 ad) (σ : vSt) {r : Int32} (h : f_X7_edges σ = some r) : MCi l yX7_edges (wsY yX7_edges cX7_edges 1 (some .int)) (rmF 2 20) K 12 ad (cM K ad) [.ref (ad 0)] σ r σ := by
  refine MCi_of (own := RX7) (by decide) hI rfl (Nat.le_of_ble_eq_true rfl) ?_
  intro p e s m args below meth c A Q hx_E hE H locs ls hw hl
  have hx := hx_E.1; have hb := hx_E.2.1; have hown := hx_E.2.2.2.1; have hts := hx_E.2.2.2.2.1
  replace hl : lv_has ls 1 [(0, .ref (ad 0))] := hl
  unfold f_X7_edges at h
  refine lv_aload_n hx hb dX7_edges_0 rfl (lv_at hl 0 rfl) ?_
  obtain ⟨v1, k2, h⟩ := it_b h
  refine kV_i (As := []) (rest := []) (q := 0) hx_E hw (c_X7_vertical l K ad hI   σ k2) mi_X7_vertical mv_X7_vertical ml_X7_48 (by decide) rfl rfl rfl ⟨⟨Nat.le_of_ble_eq_true rfl, Nat.le_of_ble_eq_true rfl⟩, rfl, rfl⟩ ⟨Nat.zero_le _, Nat.zero_le _⟩ hl.1 rfl (Nat.le_of_ble_eq_true rfl) dX7_edges_1 (fun H locs hw => ?_)
  refine lv_aload_n hx hb dX7_edges_4 rfl (lv_at hl 0 rfl) ?_
  refine gM_0_0 hx_E hw fl_X7_7 dX7_edges_5 ?_
  refine lv_iconst (v := 1) hx hb dX7_edges_8 (by decide) ?_
  refine acM_1 hx_E hw (by decide) rfl dX7_edges_9 ?_
  refine lv_aload_n hx hb dX7_edges_10 rfl (lv_at hl 0 rfl) ?_
  refine gM_0_0 hx_E hw fl_X7_7 dX7_edges_11 ?_
  refine lv_iconst (v := 0) hx hb dX7_edges_14 (by decide) ?_
  refine acM_1 hx_E hw (by decide) rfl dX7_edges_15 ?_
  refine lv_iconst (v := 1) hx hb dX7_edges_16 (by decide) ?_
  refine lv_iadd hx hb dX7_edges_17 ?_
  refine lv_imul hx hb dX7_edges_18 ?_
  refine lv_iadd hx hb dX7_edges_19 ?_
  exact hE hw (Option.some.inj h) rfl dX7_edges_20
set_option maxHeartbeats 4000000 in
set_option maxRecDepth 100000 in
theorem c_X7_aroundCell (l : Launch) (K : vK) (ad : Nat → Nat) (hI : adInj 12 ad) (l1 : Int32) (l2 : Int32) (σ : vSt) {r : Int32} (h : f_X7_aroundCell l1 l2 σ = some r) : MCi l yX7_aroundCell (wsY yX7_aroundCell cX7_aroundCell 5 (some .int)) (rmF 2 20) K 12 ad (cM K ad) [.ref (ad 0), .int l1, .int l2] σ r σ := by
  refine MCi_of (own := RX7) (by decide) hI rfl (Nat.le_of_ble_eq_true rfl) ?_
  intro p e s m args below meth c A Q hx_E hE H locs ls hw hl
  have hx := hx_E.1; have hb := hx_E.2.1; have hown := hx_E.2.2.2.1; have hts := hx_E.2.2.2.2.1
  replace hl : lv_has ls 5 [(0, .ref (ad 0)), (1, .int l1), (2, .int l2)] := hl
  unfold f_X7_aroundCell at h
  refine lv_iload_n hx hb dX7_aroundCell_0 rfl (lv_at hl 1 rfl) ?_
  refine lv_aload_n hx hb dX7_aroundCell_1 rfl (lv_at hl 0 rfl) ?_
  refine gM_0_0 hx_E hw fl_X7_7 dX7_aroundCell_2 ?_
  refine lv_iconst (v := 0) hx hb dX7_aroundCell_5 (by decide) ?_
  refine acM_1 hx_E hw (by decide) rfl dX7_aroundCell_6 ?_
  obtain ⟨g1, h⟩ := it_g h
  refine lv_idiv hx hb dX7_aroundCell_7 g1 ?_
  obtain ⟨v2, e_v2, h⟩ := it_b h
  refine lt_topi (Option.some.inj e_v2) ?_
  refine lv_istore_n (lv' := [(3, .int v2), (0, .ref (ad 0)), (1, .int l1), (2, .int l2)]) hx hb dX7_aroundCell_8 rfl hl (by decide) rfl (fun ls hl => ?_)
  refine lv_iload_n hx hb dX7_aroundCell_9 rfl (lv_at hl 2 rfl) ?_
  refine lv_aload_n hx hb dX7_aroundCell_10 rfl (lv_at hl 1 rfl) ?_
  refine gM_0_0 hx_E hw fl_X7_7 dX7_aroundCell_11 ?_
  refine lv_iconst (v := 0) hx hb dX7_aroundCell_14 (by decide) ?_
  refine acM_1 hx_E hw (by decide) rfl dX7_aroundCell_15 ?_
  obtain ⟨g3, h⟩ := it_g h
  refine lv_irem hx hb dX7_aroundCell_16 g3 ?_
  obtain ⟨v4, e_v4, h⟩ := it_b h
  refine lt_topi (Option.some.inj e_v4) ?_
  refine lv_istore (lv' := [(4, .int v4), (3, .int v2), (0, .ref (ad 0)), (1, .int l1), (2, .int l2)]) hx hb dX7_aroundCell_17 hl (by decide) rfl (fun ls hl => ?_)
  refine lv_iload_n hx hb dX7_aroundCell_19 rfl (lv_at hl 4 rfl) ?_
  refine lv_iconst (v := 2) hx hb dX7_aroundCell_20 (by decide) ?_
  refine lv_icmp_ge (tgt := 40) hx hb dX7_aroundCell_21 (by decide) (fun c5 => ?_) (fun c5 => ?_)
  · replace h := it_t c5 h
    refine lv_aload_n hx hb dX7_aroundCell_40 rfl (lv_at hl 2 rfl) ?_
    obtain ⟨v6, k7, h⟩ := it_b h
    refine kV_i (As := []) (rest := []) (q := 0) hx_E hw (c_X7_vertical l K ad hI   σ k7) mi_X7_vertical mv_X7_vertical ml_X7_48 (by decide) rfl rfl rfl ⟨⟨Nat.le_of_ble_eq_true rfl, Nat.le_of_ble_eq_true rfl⟩, rfl, rfl⟩ ⟨Nat.zero_le _, Nat.zero_le _⟩ hl.1 rfl (Nat.le_of_ble_eq_true rfl) dX7_aroundCell_41 (fun H locs hw => ?_)
    refine lv_iload_n hx hb dX7_aroundCell_44 rfl (lv_at hl 1 rfl) ?_
    refine lv_aload_n hx hb dX7_aroundCell_45 rfl (lv_at hl 2 rfl) ?_
    refine gM_0_0 hx_E hw fl_X7_7 dX7_aroundCell_46 ?_
    refine lv_iconst (v := 0) hx hb dX7_aroundCell_49 (by decide) ?_
    refine acM_1 hx_E hw (by decide) rfl dX7_aroundCell_50 ?_
    refine lv_iconst (v := 1) hx hb dX7_aroundCell_51 (by decide) ?_
    refine lv_iadd hx hb dX7_aroundCell_52 ?_
    refine lv_imul hx hb dX7_aroundCell_53 ?_
    refine lv_iadd hx hb dX7_aroundCell_54 ?_
    refine lv_iload hx hb dX7_aroundCell_55 (lv_at hl 0 rfl) ?_
    refine lv_iadd hx hb dX7_aroundCell_57 ?_
    refine lv_iload_n hx hb dX7_aroundCell_58 rfl (lv_at hl 4 rfl) ?_
    refine lv_iadd hx hb dX7_aroundCell_59 ?_
    refine lv_iconst (v := 2) hx hb dX7_aroundCell_60 (by decide) ?_
    refine lv_isub hx hb dX7_aroundCell_61 ?_
    exact hE hw (Option.some.inj h) rfl dX7_aroundCell_62
  · replace h := it_f c5 h
    refine lv_iload_n hx hb dX7_aroundCell_24 rfl (lv_at hl 1 rfl) ?_
    refine lv_iload_n hx hb dX7_aroundCell_25 rfl (lv_at hl 4 rfl) ?_
    refine lv_iadd hx hb dX7_aroundCell_26 ?_
    refine lv_aload_n hx hb dX7_aroundCell_27 rfl (lv_at hl 2 rfl) ?_
    refine gM_0_0 hx_E hw fl_X7_7 dX7_aroundCell_28 ?_
    refine lv_iconst (v := 0) hx hb dX7_aroundCell_31 (by decide) ?_
    refine acM_1 hx_E hw (by decide) rfl dX7_aroundCell_32 ?_
    refine lv_imul hx hb dX7_aroundCell_33 ?_
    refine lv_iload hx hb dX7_aroundCell_34 (lv_at hl 0 rfl) ?_
    refine lv_iadd hx hb dX7_aroundCell_36 ?_
    refine lv_goto (tgt := 62) hx hb dX7_aroundCell_37 (by decide) ?_
    exact hE hw (Option.some.inj h) rfl dX7_aroundCell_62
set_option maxHeartbeats 4000000 in
set_option maxRecDepth 100000 in
theorem c_X7_toward (l : Launch) (K : vK) (ad : Nat → Nat) (hI : adInj 12 ad) (l1 : Int32) (l2 : Int32) (σ : vSt) {r : Int32} (h : f_X7_toward l1 l2 σ = some r) : MCi l yX7_toward (wsY yX7_toward cX7_toward 5 (some .int)) (rmF 2 20) K 12 ad (cM K ad) [.ref (ad 0), .int l1, .int l2] σ r σ := by
  refine MCi_of (own := RX7) (by decide) hI rfl (Nat.le_of_ble_eq_true rfl) ?_
  intro p e s m args below meth c A Q hx_E hE H locs ls hw hl
  have hx := hx_E.1; have hb := hx_E.2.1; have hown := hx_E.2.2.2.1; have hts := hx_E.2.2.2.2.1
  replace hl : lv_has ls 5 [(0, .ref (ad 0)), (1, .int l1), (2, .int l2)] := hl
  unfold f_X7_toward at h
  refine lv_iload_n hx hb dX7_toward_0 rfl (lv_at hl 1 rfl) ?_
  refine lv_aload_n hx hb dX7_toward_1 rfl (lv_at hl 0 rfl) ?_
  refine gM_0_0 hx_E hw fl_X7_7 dX7_toward_2 ?_
  refine lv_iconst (v := 0) hx hb dX7_toward_5 (by decide) ?_
  refine acM_1 hx_E hw (by decide) rfl dX7_toward_6 ?_
  refine lv_iconst (v := 1) hx hb dX7_toward_7 (by decide) ?_
  refine lv_iadd hx hb dX7_toward_8 ?_
  obtain ⟨g1, h⟩ := it_g h
  refine lv_idiv hx hb dX7_toward_9 g1 ?_
  obtain ⟨v2, e_v2, h⟩ := it_b h
  refine lt_topi (Option.some.inj e_v2) ?_
  refine lv_istore_n (lv' := [(3, .int v2), (0, .ref (ad 0)), (1, .int l1), (2, .int l2)]) hx hb dX7_toward_10 rfl hl (by decide) rfl (fun ls hl => ?_)
  refine lv_iload_n hx hb dX7_toward_11 rfl (lv_at hl 2 rfl) ?_
  refine lv_aload_n hx hb dX7_toward_12 rfl (lv_at hl 1 rfl) ?_
  refine gM_0_0 hx_E hw fl_X7_7 dX7_toward_13 ?_
  refine lv_iconst (v := 0) hx hb dX7_toward_16 (by decide) ?_
  refine acM_1 hx_E hw (by decide) rfl dX7_toward_17 ?_
  refine lv_iconst (v := 1) hx hb dX7_toward_18 (by decide) ?_
  refine lv_iadd hx hb dX7_toward_19 ?_
  obtain ⟨g3, h⟩ := it_g h
  refine lv_irem hx hb dX7_toward_20 g3 ?_
  obtain ⟨v4, e_v4, h⟩ := it_b h
  refine lt_topi (Option.some.inj e_v4) ?_
  refine lv_istore (lv' := [(4, .int v4), (3, .int v2), (0, .ref (ad 0)), (1, .int l1), (2, .int l2)]) hx hb dX7_toward_21 hl (by decide) rfl (fun ls hl => ?_)
  refine lv_iload_n hx hb dX7_toward_23 rfl (lv_at hl 4 rfl) ?_
  by_cases c13 : l2 = 0
  · replace h := it_t c13 h
    refine lv_tableIn (off := 28) (tgt := 52) hx hb dX7_toward_24 (by rw [c13]; decide) (by rw [c13]; decide) (by rw [c13]; rfl) (by decide) ?_
    refine lv_iload hx hb dX7_toward_52 (lv_at hl 0 rfl) ?_
    refine lv_if_le (tgt := 73) hx hb dX7_toward_54 (by decide) (fun c5 => ?_) (fun c5 => ?_)
    · replace h := it_t c5 h
      refine lv_iconst (v := -1) hx hb dX7_toward_73 (by decide) ?_
      exact hE hw (Option.some.inj h) rfl dX7_toward_74
    · replace h := it_f c5 h
      refine lv_iload_n hx hb dX7_toward_57 rfl (lv_at hl 1 rfl) ?_
      refine lv_aload_n hx hb dX7_toward_58 rfl (lv_at hl 2 rfl) ?_
      refine gM_0_0 hx_E hw fl_X7_7 dX7_toward_59 ?_
      refine lv_iconst (v := 0) hx hb dX7_toward_62 (by decide) ?_
      refine acM_1 hx_E hw (by decide) rfl dX7_toward_63 ?_
      refine lv_imul hx hb dX7_toward_64 ?_
      refine lv_iload hx hb dX7_toward_65 (lv_at hl 0 rfl) ?_
      refine lv_iadd hx hb dX7_toward_67 ?_
      refine lv_iconst (v := 1) hx hb dX7_toward_68 (by decide) ?_
      refine lv_isub hx hb dX7_toward_69 ?_
      refine lv_goto (tgt := 74) hx hb dX7_toward_70 (by decide) ?_
      exact hE hw (Option.some.inj h) rfl dX7_toward_74
  replace h := it_f c13 h
  by_cases c14 : l2 = 1
  · replace h := it_t c14 h
    refine lv_tableIn (off := 51) (tgt := 75) hx hb dX7_toward_24 (by rw [c14]; decide) (by rw [c14]; decide) (by rw [c14]; rfl) (by decide) ?_
    refine lv_iload hx hb dX7_toward_75 (lv_at hl 0 rfl) ?_
    refine lv_aload_n hx hb dX7_toward_77 rfl (lv_at hl 2 rfl) ?_
    refine gM_0_0 hx_E hw fl_X7_7 dX7_toward_78 ?_
    refine lv_iconst (v := 0) hx hb dX7_toward_81 (by decide) ?_
    refine acM_1 hx_E hw (by decide) rfl dX7_toward_82 ?_
    refine lv_icmp_ge (tgt := 100) hx hb dX7_toward_83 (by decide) (fun c6 => ?_) (fun c6 => ?_)
    · replace h := it_t c6 h
      refine lv_iconst (v := -1) hx hb dX7_toward_100 (by decide) ?_
      exact hE hw (Option.some.inj h) rfl dX7_toward_101
    · replace h := it_f c6 h
      refine lv_iload_n hx hb dX7_toward_86 rfl (lv_at hl 1 rfl) ?_
      refine lv_aload_n hx hb dX7_toward_87 rfl (lv_at hl 2 rfl) ?_
      refine gM_0_0 hx_E hw fl_X7_7 dX7_toward_88 ?_
      refine lv_iconst (v := 0) hx hb dX7_toward_91 (by decide) ?_
      refine acM_1 hx_E hw (by decide) rfl dX7_toward_92 ?_
      refine lv_imul hx hb dX7_toward_93 ?_
      refine lv_iload hx hb dX7_toward_94 (lv_at hl 0 rfl) ?_
      refine lv_iadd hx hb dX7_toward_96 ?_
      refine lv_goto (tgt := 101) hx hb dX7_toward_97 (by decide) ?_
      exact hE hw (Option.some.inj h) rfl dX7_toward_101
  replace h := it_f c14 h
  by_cases c15 : l2 = 2
  · replace h := it_t c15 h
    refine lv_tableIn (off := 78) (tgt := 102) hx hb dX7_toward_24 (by rw [c15]; decide) (by rw [c15]; decide) (by rw [c15]; rfl) (by decide) ?_
    refine lv_iload_n hx hb dX7_toward_102 rfl (lv_at hl 1 rfl) ?_
    refine lv_if_le (tgt := 129) hx hb dX7_toward_103 (by decide) (fun c7 => ?_) (fun c7 => ?_)
    · replace h := it_t c7 h
      refine lv_iconst (v := -1) hx hb dX7_toward_129 (by decide) ?_
      exact hE hw (Option.some.inj h) rfl dX7_toward_130
    · replace h := it_f c7 h
      refine lv_aload_n hx hb dX7_toward_106 rfl (lv_at hl 2 rfl) ?_
      obtain ⟨v8, k9, h⟩ := it_b h
      refine kV_i (As := []) (rest := []) (q := 0) hx_E hw (c_X7_vertical l K ad hI   σ k9) mi_X7_vertical mv_X7_vertical ml_X7_48 (by decide) rfl rfl rfl ⟨⟨Nat.le_of_ble_eq_true rfl, Nat.le_of_ble_eq_true rfl⟩, rfl, rfl⟩ ⟨Nat.zero_le _, Nat.zero_le _⟩ hl.1 rfl (Nat.le_of_ble_eq_true rfl) dX7_toward_107 (fun H locs hw => ?_)
      refine lv_iload_n hx hb dX7_toward_110 rfl (lv_at hl 1 rfl) ?_
      refine lv_iconst (v := 1) hx hb dX7_toward_111 (by decide) ?_
      refine lv_isub hx hb dX7_toward_112 ?_
      refine lv_aload_n hx hb dX7_toward_113 rfl (lv_at hl 2 rfl) ?_
      refine gM_0_0 hx_E hw fl_X7_7 dX7_toward_114 ?_
      refine lv_iconst (v := 0) hx hb dX7_toward_117 (by decide) ?_
      refine acM_1 hx_E hw (by decide) rfl dX7_toward_118 ?_
      refine lv_iconst (v := 1) hx hb dX7_toward_119 (by decide) ?_
      refine lv_iadd hx hb dX7_toward_120 ?_
      refine lv_imul hx hb dX7_toward_121 ?_
      refine lv_iadd hx hb dX7_toward_122 ?_
      refine lv_iload hx hb dX7_toward_123 (lv_at hl 0 rfl) ?_
      refine lv_iadd hx hb dX7_toward_125 ?_
      refine lv_goto (tgt := 130) hx hb dX7_toward_126 (by decide) ?_
      exact hE hw (Option.some.inj h) rfl dX7_toward_130
  replace h := it_f c15 h
  refine lv_tableOut (tgt := 131) hx hb dX7_toward_24 (sw_out0_2 c13 c14 c15) (by decide) ?_
  refine lv_iload_n hx hb dX7_toward_131 rfl (lv_at hl 1 rfl) ?_
  refine lv_aload_n hx hb dX7_toward_132 rfl (lv_at hl 2 rfl) ?_
  refine gM_0_0 hx_E hw fl_X7_7 dX7_toward_133 ?_
  refine lv_iconst (v := 1) hx hb dX7_toward_136 (by decide) ?_
  refine acM_1 hx_E hw (by decide) rfl dX7_toward_137 ?_
  refine lv_icmp_ge (tgt := 162) hx hb dX7_toward_138 (by decide) (fun c10 => ?_) (fun c10 => ?_)
  · replace h := it_t c10 h
    refine lv_iconst (v := -1) hx hb dX7_toward_162 (by decide) ?_
    exact hE hw (Option.some.inj h) rfl dX7_toward_163
  · replace h := it_f c10 h
    refine lv_aload_n hx hb dX7_toward_141 rfl (lv_at hl 2 rfl) ?_
    obtain ⟨v11, k12, h⟩ := it_b h
    refine kV_i (As := []) (rest := []) (q := 0) hx_E hw (c_X7_vertical l K ad hI   σ k12) mi_X7_vertical mv_X7_vertical ml_X7_48 (by decide) rfl rfl rfl ⟨⟨Nat.le_of_ble_eq_true rfl, Nat.le_of_ble_eq_true rfl⟩, rfl, rfl⟩ ⟨Nat.zero_le _, Nat.zero_le _⟩ hl.1 rfl (Nat.le_of_ble_eq_true rfl) dX7_toward_142 (fun H locs hw => ?_)
    refine lv_iload_n hx hb dX7_toward_145 rfl (lv_at hl 1 rfl) ?_
    refine lv_aload_n hx hb dX7_toward_146 rfl (lv_at hl 2 rfl) ?_
    refine gM_0_0 hx_E hw fl_X7_7 dX7_toward_147 ?_
    refine lv_iconst (v := 0) hx hb dX7_toward_150 (by decide) ?_
    refine acM_1 hx_E hw (by decide) rfl dX7_toward_151 ?_
    refine lv_iconst (v := 1) hx hb dX7_toward_152 (by decide) ?_
    refine lv_iadd hx hb dX7_toward_153 ?_
    refine lv_imul hx hb dX7_toward_154 ?_
    refine lv_iadd hx hb dX7_toward_155 ?_
    refine lv_iload hx hb dX7_toward_156 (lv_at hl 0 rfl) ?_
    refine lv_iadd hx hb dX7_toward_158 ?_
    refine lv_goto (tgt := 163) hx hb dX7_toward_159 (by decide) ?_
    exact hE hw (Option.some.inj h) rfl dX7_toward_163
set_option maxHeartbeats 4000000 in
set_option maxRecDepth 100000 in
theorem c_X7_markOf (l : Launch) (K : vK) (ad : Nat → Nat) (hI : adInj 12 ad) (l1 : Int32) (σ : vSt) {r : Int32} (h : f_X7_markOf l1 σ = some r) : MCi l yX7_markOf (wsY yX7_markOf cX7_markOf 2 (some .int)) (rmF 1 0) K 12 ad (cM K ad) [.ref (ad 0), .int l1] σ r σ := by
  refine MCi_of (own := RX7) (by decide) hI rfl (Nat.le_of_ble_eq_true rfl) ?_
  intro p e s m args below meth c A Q hx_E hE H locs ls hw hl
  have hx := hx_E.1; have hb := hx_E.2.1; have hown := hx_E.2.2.2.1; have hts := hx_E.2.2.2.2.1
  replace hl : lv_has ls 2 [(0, .ref (ad 0)), (1, .int l1)] := hl
  unfold f_X7_markOf at h
  refine lv_aload_n hx hb dX7_markOf_0 rfl (lv_at hl 0 rfl) ?_
  refine gM_0_0 hx_E hw fl_X7_7 dX7_markOf_1 ?_
  refine lv_bipush (v := 18) hx hb dX7_markOf_4 (by decide) ?_
  refine lv_iload_n hx hb dX7_markOf_6 rfl (lv_at hl 1 rfl) ?_
  refine lv_iadd hx hb dX7_markOf_7 ?_
  obtain ⟨g1, h⟩ := it_g h
  refine aM_1 hx_E hw g1 dX7_markOf_8 ?_
  exact hE hw (Option.some.inj h) rfl dX7_markOf_9
set_option maxHeartbeats 4000000 in
set_option maxRecDepth 100000 in
theorem c_X7_aroundWith (l : Launch) (K : vK) (ad : Nat → Nat) (hI : adInj 12 ad) (l1 : Int32) (l2 : Int32) (σ : vSt) {r : Int32} (h : f_X7_aroundWith l1 l2 σ = some r) : MCi l yX7_aroundWith (wsY yX7_aroundWith cX7_aroundWith 5 (some .int)) (rmF 3 44) K 12 ad (cM K ad) [.ref (ad 0), .int l1, .int l2] σ r σ := by
  refine MCi_of (own := RX7) (by decide) hI rfl (Nat.le_of_ble_eq_true rfl) ?_
  intro p e s m args below meth c A Q hx_E hE H locs ls hw hl
  have hx := hx_E.1; have hb := hx_E.2.1; have hown := hx_E.2.2.2.1; have hts := hx_E.2.2.2.2.1
  replace hl : lv_has ls 5 [(0, .ref (ad 0)), (1, .int l1), (2, .int l2)] := hl
  unfold f_X7_aroundWith at h
  refine lv_iconst (v := 0) hx hb dX7_aroundWith_0 (by decide) ?_
  refine lv_istore_n (lv' := [(3, .int (0 : Int32)), (0, .ref (ad 0)), (1, .int l1), (2, .int l2)]) hx hb dX7_aroundWith_1 rfl hl (by decide) rfl (fun ls hl => ?_)
  refine lv_iconst (v := 0) hx hb dX7_aroundWith_2 (by decide) ?_
  refine lv_istore (lv' := [(4, .int (0 : Int32)), (3, .int (0 : Int32)), (0, .ref (ad 0)), (1, .int l1), (2, .int l2)]) hx hb dX7_aroundWith_3 hl (by decide) rfl (fun ls hl => ?_)
  obtain ⟨φ6, h9, h_φ6⟩ := it_b h
  have hJ5 : ∀ (v3 : Int32), v3 = φ6 → ∀ (H : Heap) (locs : List Loc) (ls : Array Slot), PW K 12 ad (cM K ad) A s.heap σ H locs → lv_has ls 5 [(3, .int v3)] → W p l e (rmF 3 44) s m args below meth c H locs 0 0 Q (F0 m 40 ls []) := by
    intro v3 e9 H locs ls hw hl
    subst e9
    replace h := h_φ6
    refine lv_iload_n hx hb dX7_aroundWith_40 rfl (lv_at hl 0 rfl) ?_
    exact hE hw (Option.some.inj h) rfl dX7_aroundWith_41
  have hL4 : ∀ (n9 : Nat) (v1 : Int32) (v2 : Int32), ∀ (H : Heap) (locs : List Loc) (ls : Array Slot), f_X7_aroundWith_5 l1 l2 σ n9 v1 v2 = some φ6 → PW K 12 ad (cM K ad) A s.heap σ H locs → lv_has ls 5 [(0, .ref (ad 0)), (1, .int l1), (2, .int l2), (3, .int v1), (4, .int v2)] → W p l e (rmF 3 44) s m args below meth c H locs 0 0 Q (F0 m 5 ls []) := by
    intro n9
    induction n9 with
    | zero => intro v1 v2 H locs ls h hw hl; rw [f_X7_aroundWith_5.eq_1] at h; exact it_n h
    | succ n9 ih =>
      intro v1 v2 H locs ls h hw hl
      rw [f_X7_aroundWith_5.eq_2] at h
      refine lv_iload hx hb dX7_aroundWith_5 (lv_at hl 4 rfl) ?_
      refine lv_iconst (v := 4) hx hb dX7_aroundWith_7 (by decide) ?_
      refine lv_icmp_ge (tgt := 40) hx hb dX7_aroundWith_8 (by decide) (fun c7 => ?_) (fun c7 => ?_)
      · replace h := it_t c7 h
        have e9 := Option.some.inj h
        subst e9
        exact hJ5 _ rfl  H locs ls hw (lv_sub hl [3] rfl)
      · replace h := it_f c7 h
        refine lv_iload_n hx hb dX7_aroundWith_11 rfl (lv_at hl 3 rfl) ?_
        refine lv_aload_n hx hb dX7_aroundWith_12 rfl (lv_at hl 0 rfl) ?_
        refine lv_aload_n hx hb dX7_aroundWith_13 rfl (lv_at hl 0 rfl) ?_
        refine lv_iload_n hx hb dX7_aroundWith_14 rfl (lv_at hl 1 rfl) ?_
        refine lv_iload hx hb dX7_aroundWith_15 (lv_at hl 4 rfl) ?_
        obtain ⟨v8, k9, h⟩ := it_b h
        refine kV_i (As := [.int l1, .int v2]) (rest := [.ref (ad 0), .int v1]) (q := 0) hx_E hw (c_X7_aroundCell l K ad hI  l1 v2 σ k9) mi_X7_aroundCell mv_X7_aroundCell ml_X7_52 (by decide) rfl rfl rfl ⟨⟨Nat.le_of_ble_eq_true rfl, Nat.le_of_ble_eq_true rfl⟩, rfl, rfl⟩ ⟨Nat.zero_le _, Nat.zero_le _⟩ hl.1 rfl (Nat.le_of_ble_eq_true rfl) dX7_aroundWith_17 (fun H locs hw => ?_)
        obtain ⟨v10, k11, h⟩ := it_b h
        refine kV_i (As := [.int v8]) (rest := [.int v1]) (q := 0) hx_E hw (c_X7_markOf l K ad hI  v8 σ k11) mi_X7_markOf mv_X7_markOf ml_X7_56 (by decide) rfl rfl rfl ⟨⟨Nat.le_of_ble_eq_true rfl, Nat.le_of_ble_eq_true rfl⟩, rfl, rfl⟩ ⟨Nat.zero_le _, Nat.zero_le _⟩ hl.1 rfl (Nat.le_of_ble_eq_true rfl) dX7_aroundWith_20 (fun H locs hw => ?_)
        refine lv_iload_n hx hb dX7_aroundWith_23 rfl (lv_at hl 2 rfl) ?_
        obtain ⟨φ15, h9, h_φ15⟩ := it_b h
        have hJ14 : ∀ (v13 : Int32), v13 = φ15 → (v13 = 0 ∨ v13 = 1) → ∀ (H : Heap) (locs : List Loc) (ls : Array Slot), PW K 12 ad (cM K ad) A s.heap σ H locs → lv_has ls 5 [(0, .ref (ad 0)), (1, .int l1), (2, .int l2), (4, .int v2)] → W p l e (rmF 3 44) s m args below meth c H locs 0 0 Q (F0 m 32 ls [.int v13, .int v1]) := by
          intro v13 e9 z_v13 H locs ls hw hl
          subst e9
          replace h := h_φ15
          refine lv_iadd hx hb dX7_aroundWith_32 ?_
          obtain ⟨v16, e_v16, h⟩ := it_b h
          refine lt_topi (Option.some.inj e_v16) ?_
          refine lv_istore_n (lv' := [(3, .int v16), (0, .ref (ad 0)), (1, .int l1), (2, .int l2), (4, .int v2)]) hx hb dX7_aroundWith_33 rfl hl (by decide) rfl (fun ls hl => ?_)
          refine lv_iinc (v := (v2 + 1)) (lv' := [(4, .int (v2 + 1)), (3, .int v16), (0, .ref (ad 0)), (1, .int l1), (2, .int l2)]) hx hb dX7_aroundWith_34 hl (k := 4) rfl rfl (by decide) rfl (fun ls hl => ?_)
          refine lv_goto (tgt := 5) hx hb dX7_aroundWith_37 (by decide) ?_
          exact ih _ _   H locs ls h hw (lv_sub hl [2, 3, 4, 1, 0] rfl)
        replace h := h9
        refine lv_icmp_ne (tgt := 31) hx hb dX7_aroundWith_24 (by decide) (fun c12 => ?_) (fun c12 => ?_)
        · replace h := it_f c12 h
          refine lv_iconst (v := 0) hx hb dX7_aroundWith_31 (by decide) ?_
          have e9 := Option.some.inj h
          subst e9
          exact hJ14 _ rfl (Or.inl rfl) H locs ls hw (lv_sub hl [0, 1, 2, 4] rfl)
        · replace h := it_t c12 h
          refine lv_iconst (v := 1) hx hb dX7_aroundWith_27 (by decide) ?_
          refine lv_goto (tgt := 32) hx hb dX7_aroundWith_28 (by decide) ?_
          have e9 := Option.some.inj h
          subst e9
          exact hJ14 _ rfl (Or.inr rfl) H locs ls hw (lv_sub hl [0, 1, 2, 4] rfl)
  exact hL4 600 _ _  H locs ls h9 hw (lv_sub hl [2, 3, 4, 1, 0] rfl)
set_option maxHeartbeats 4000000 in
set_option maxRecDepth 100000 in
theorem c_X7_top (l : Launch) (K : vK) (ad : Nat → Nat) (hI : adInj 12 ad) (l1 : Int32) (σ : vSt) {r : Int32} (h : f_X7_top l1 σ = some r) : MCi l yX7_top (wsY yX7_top cX7_top 3 (some .int)) (rmF 1 0) K 12 ad (cM K ad) [.ref (ad 0), .int l1] σ r σ := by
  refine MCi_of (own := RX7) (by decide) hI rfl (Nat.le_of_ble_eq_true rfl) ?_
  intro p e s m args below meth c A Q hx_E hE H locs ls hw hl
  have hx := hx_E.1; have hb := hx_E.2.1; have hown := hx_E.2.2.2.1; have hts := hx_E.2.2.2.2.1
  replace hl : lv_has ls 3 [(0, .ref (ad 0)), (1, .int l1)] := hl
  unfold f_X7_top at h
  refine lv_iload_n hx hb dX7_top_0 rfl (lv_at hl 1 rfl) ?_
  refine lv_istore_n (lv' := [(2, .int l1), (0, .ref (ad 0)), (1, .int l1)]) hx hb dX7_top_1 rfl hl (by decide) rfl (fun ls hl => ?_)
  obtain ⟨φ5, h9, h_φ5⟩ := it_b h
  have hJ4 : ∀ (v2 : Int32), v2 = φ5 → ∀ (H : Heap) (locs : List Loc) (ls : Array Slot), PW K 12 ad (cM K ad) A s.heap σ H locs → lv_has ls 3 [(2, .int v2)] → W p l e (rmF 1 0) s m args below meth c H locs 0 0 Q (F0 m 22 ls []) := by
    intro v2 e9 H locs ls hw hl
    subst e9
    replace h := h_φ5
    refine lv_iload_n hx hb dX7_top_22 rfl (lv_at hl 0 rfl) ?_
    exact hE hw (Option.some.inj h) rfl dX7_top_23
  have hL3 : ∀ (n9 : Nat) (v1 : Int32), ∀ (H : Heap) (locs : List Loc) (ls : Array Slot), f_X7_top_2 σ n9 v1 = some φ5 → PW K 12 ad (cM K ad) A s.heap σ H locs → lv_has ls 3 [(0, .ref (ad 0)), (2, .int v1)] → W p l e (rmF 1 0) s m args below meth c H locs 0 0 Q (F0 m 2 ls []) := by
    intro n9
    induction n9 with
    | zero => intro v1 H locs ls h hw hl; rw [f_X7_top_2.eq_1] at h; exact it_n h
    | succ n9 ih =>
      intro v1 H locs ls h hw hl
      rw [f_X7_top_2.eq_2] at h
      refine lv_aload_n hx hb dX7_top_2 rfl (lv_at hl 0 rfl) ?_
      refine gM_0_5 hx_E hw fl_X7_19 dX7_top_3 ?_
      refine lv_iload_n hx hb dX7_top_6 rfl (lv_at hl 1 rfl) ?_
      obtain ⟨g6, h⟩ := it_g h
      refine aM_4 hx_E hw g6 dX7_top_7 ?_
      refine lv_iload_n hx hb dX7_top_8 rfl (lv_at hl 1 rfl) ?_
      refine lv_icmp_eq (tgt := 22) hx hb dX7_top_9 (by decide) (fun c7 => ?_) (fun c7 => ?_)
      · replace h := it_t c7 h
        have e9 := Option.some.inj h
        subst e9
        exact hJ4 _ rfl  H locs ls hw (lv_sub hl [1] rfl)
      · replace h := it_f c7 h
        refine lv_aload_n hx hb dX7_top_12 rfl (lv_at hl 0 rfl) ?_
        refine gM_0_5 hx_E hw fl_X7_19 dX7_top_13 ?_
        refine lv_iload_n hx hb dX7_top_16 rfl (lv_at hl 1 rfl) ?_
        obtain ⟨g8, h⟩ := it_g h
        refine aM_4 hx_E hw g8 dX7_top_17 ?_
        obtain ⟨v9, e_v9, h⟩ := it_b h
        refine lt_topi (Option.some.inj e_v9) ?_
        refine lv_istore_n (lv' := [(2, .int v9), (0, .ref (ad 0))]) hx hb dX7_top_18 rfl hl (by decide) rfl (fun ls hl => ?_)
        refine lv_goto (tgt := 2) hx hb dX7_top_19 (by decide) ?_
        exact ih _   H locs ls h hw (lv_sub hl [1, 0] rfl)
  exact hL3 600 _  H locs ls h9 hw (lv_sub hl [1, 0] rfl)
