set_option maxHeartbeats 4000000 in
theorem c_X6_becomes (l : Launch) (K : vK) (l0 : Int32) {r : Int32} (h : f_X6_becomes l0 = some r) : MCi l yX6_becomes (wsY yX6_becomes cX6_becomes 1 (some .int)) (rmF 1 0) K 0 ad_0 (cf_0) [.int l0] st_0 r st_0 := by
  refine MCi_of (own := RX6) (plainFor_of_name (by decide)) adInj_0 rfl (Nat.le_of_ble_eq_true rfl) ?_
  intro p e s m args below meth c A Q hx_E hE H locs ls hw hl
  have hx := hx_E.1; have hb := hx_E.2.1; have hown := hx_E.2.2.2.1; have hts := hx_E.2.2.2.2.1
  replace hl : lv_has ls 1 [(0, .int l0)] := hl
  unfold f_X6_becomes at h
  have hz : ∀ v : Int32, some v = some r → ∀ (H : Heap) (locs : List Loc) (ls : Array Slot), PW K 0 ad_0 (cf_0) A s.heap st_0 H locs → W p l e (rmF 1 0) s m args below meth c H locs 0 0 Q (F0 m 19 ls [.int v]) := fun v h H locs ls hw => hE hw (Option.some.inj h) rfl dX6_becomes_19
  refine lv_iload_n hx hb dX6_becomes_0 rfl (lv_at hl 0 rfl) ?_
  refine lv_if_lt (tgt := 18) hx hb dX6_becomes_1 (by decide) (fun c1 => ?_) (fun c1 => ?_)
  · replace h := it_t c1 h
    refine lv_iconst (v := 0) hx hb dX6_becomes_18 (by decide) ?_
    exact hz _ h _ _ _ hw
  · replace h := it_f c1 h
    refine lv_iload_n hx hb dX6_becomes_4 rfl (lv_at hl 0 rfl) ?_
    refine lv_bipush (v := 8) hx hb dX6_becomes_5 (by decide) ?_
    refine lv_icmp_ge (tgt := 18) hx hb dX6_becomes_7 (by decide) (fun c2 => ?_) (fun c2 => ?_)
    · replace h := it_t c2 h
      refine lv_iconst (v := 0) hx hb dX6_becomes_18 (by decide) ?_
      exact hz _ h _ _ _ hw
    · replace h := it_f c2 h
      obtain ⟨g3, h⟩ := it_g h
      obtain ⟨t, hZ, hT⟩ := hx_E.2.2.2.2.2.2.2.2.2.2.2.2.1
      refine va_gets hx hb hZ hw.2 hown (hts _ fl_X6_237) (fun _ h9 => h9) dX6_becomes_10 ?_
      refine lv_iload_n hx hb dX6_becomes_13 rfl (lv_at hl 0 rfl) ?_
      refine va_ti hx hb hT hw.2 (vp_in_iff.mpr g3) (v := .int (t_becI l0.toNatClampNeg)) rfl dX6_becomes_14 ?_
      refine lv_goto (tgt := 19) hx hb dX6_becomes_15 (by decide) ?_
      exact hz _ h _ _ _ hw
set_option maxHeartbeats 4000000 in
set_option maxRecDepth 100000 in
theorem c_X5_append (l : Launch) (K : vK) (ad : Nat → Nat) (hI : adInj 30 ad) (l1 : Int32) (σ : vSt) {r : Int32} {σ' : vSt} (h : f_X5_append l1 σ = some (r, σ')) : MCi l yX5_append (wsY yX5_append cX5_append 2 (some .int)) (rmF 1 0) K 30 ad (cC K ad) [.ref (ad 27), .int l1] σ r σ' := by
  refine MCi_of (own := RX5) (plainFor_of_name (by decide)) hI rfl (Nat.le_of_ble_eq_true rfl) ?_
  intro p e s m args below meth c A Q hx_E hE H locs ls hw hl
  have hx := hx_E.1; have hb := hx_E.2.1; have hown := hx_E.2.2.2.1; have hts := hx_E.2.2.2.2.1
  replace hl : lv_has ls 2 [(0, .ref (ad 27)), (1, .int l1)] := hl
  unfold f_X5_append at h
  refine lv_aload_n hx hb dX5_append_0 rfl (lv_at hl 0 rfl) ?_
  refine gC_27_2 hx_E hw fl_X5_19 dX5_append_1 ?_
  refine lv_if_lt (tgt := 16) hx hb dX5_append_4 (by decide) (fun c1 => ?_) (fun c1 => ?_)
  · replace h := it_t c1 h
    refine lv_bipush (v := -4) hx hb dX5_append_16 (by decide) ?_
    exact hE hw (congrArg Prod.fst (Option.some.inj h)) (congrArg Prod.snd (Option.some.inj h)) dX5_append_18
  · replace h := it_f c1 h
    refine lv_aload_n hx hb dX5_append_7 rfl (lv_at hl 0 rfl) ?_
    refine gC_27_2 hx_E hw fl_X5_19 dX5_append_8 ?_
    refine lv_bipush (v := 40) hx hb dX5_append_11 (by decide) ?_
    refine lv_icmp_lt (tgt := 19) hx hb dX5_append_13 (by decide) (fun c2 => ?_) (fun c2 => ?_)
    · replace h := it_t c2 h
      refine lv_aload_n hx hb dX5_append_19 rfl (lv_at hl 0 rfl) ?_
      refine gC_27_0 hx_E hw fl_X5_9 dX5_append_20 ?_
      refine lv_aload_n hx hb dX5_append_23 rfl (lv_at hl 0 rfl) ?_
      refine gC_27_2 hx_E hw fl_X5_19 dX5_append_24 ?_
      refine lv_iload_n hx hb dX5_append_27 rfl (lv_at hl 1 rfl) ?_
      refine lv_i2b (v := l1.toInt8.toInt32) hx hb dX5_append_28 rfl ?_
      obtain ⟨g3, h⟩ := it_g h
      refine sC_28 hx_E hw g3 dX5_append_29 (fun H locs hw => ?_)
      refine lv_aload_n hx hb dX5_append_30 rfl (lv_at hl 0 rfl) ?_
      refine lv_dup hx hb dX5_append_31 rfl ?_
      refine gC_27_2 hx_E hw fl_X5_19 dX5_append_32 ?_
      refine lv_iconst (v := 1) hx hb dX5_append_35 (by decide) ?_
      refine lv_iadd hx hb dX5_append_36 ?_
      refine pC_27_2 hx_E hw fl_X5_19 dX5_append_37 (fun H locs hw => ?_)
      refine lv_aload_n hx hb dX5_append_40 rfl (lv_at hl 0 rfl) ?_
      refine gC_27_2 hx_E hw fl_X5_19 dX5_append_41 ?_
      exact hE hw (congrArg Prod.fst (Option.some.inj h)) (congrArg Prod.snd (Option.some.inj h)) dX5_append_44
    · replace h := it_f c2 h
      refine lv_bipush (v := -4) hx hb dX5_append_16 (by decide) ?_
      exact hE hw (congrArg Prod.fst (Option.some.inj h)) (congrArg Prod.snd (Option.some.inj h)) dX5_append_18
set_option maxHeartbeats 4000000 in
set_option maxRecDepth 100000 in
theorem c_X6_type (l : Launch) (K : vK) (ad : Nat → Nat) (hI : adInj 30 ad) (l1 : Int32) (σ : vSt) {r : Int32} {σ' : vSt} (h : f_X6_type l1 σ = some (r, σ')) : MCi l yX6_type (wsY yX6_type cX6_type 2 (some .int)) (rmF 2 21) K 30 ad (cC K ad) [.ref (ad 8), .int l1] σ r σ' := by
  refine MCi_of (own := RX6) (plainFor_of_name (by decide)) hI rfl (Nat.le_of_ble_eq_true rfl) ?_
  intro p e s m args below meth c A Q hx_E hE H locs ls hw hl
  have hx := hx_E.1; have hb := hx_E.2.1; have hown := hx_E.2.2.2.1; have hts := hx_E.2.2.2.2.1
  replace hl : lv_has ls 2 [(0, .ref (ad 8)), (1, .int l1)] := hl
  unfold f_X6_type at h
  refine lv_iload_n hx hb dX6_type_0 rfl (lv_at hl 1 rfl) ?_
  refine lv_if_lt (tgt := 10) hx hb dX6_type_1 (by decide) (fun c1 => ?_) (fun c1 => ?_)
  · replace h := it_t c1 h
    refine lv_bipush (v := -2) hx hb dX6_type_10 (by decide) ?_
    exact hE hw (congrArg Prod.fst (Option.some.inj h)) (congrArg Prod.snd (Option.some.inj h)) dX6_type_12
  · replace h := it_f c1 h
    refine lv_iload_n hx hb dX6_type_4 rfl (lv_at hl 1 rfl) ?_
    refine lv_bipush (v := 127) hx hb dX6_type_5 (by decide) ?_
    refine lv_icmp_le (tgt := 13) hx hb dX6_type_7 (by decide) (fun c2 => ?_) (fun c2 => ?_)
    · replace h := it_t c2 h
      refine lv_aload_n hx hb dX6_type_13 rfl (lv_at hl 0 rfl) ?_
      refine gC_8_5 hx_E hw fl_X6_61 dX6_type_14 ?_
      refine lv_iload_n hx hb dX6_type_17 rfl (lv_at hl 1 rfl) ?_
      obtain ⟨⟨v3, σ4⟩, k5, h⟩ := it_b h
      refine kV_i (As := [.int l1]) (rest := []) (q := 27) hx_E hw (c_X5_append l K ad hI  l1 σ k5) mi_X5_append mv_X5_append ml_X6_69 (by decide) rfl rfl rfl ⟨⟨Nat.le_of_ble_eq_true rfl, Nat.le_of_ble_eq_true rfl⟩, rfl, rfl⟩ ⟨Nat.zero_le _, Nat.zero_le _⟩ hl.1 rfl (Nat.le_of_ble_eq_true rfl) dX6_type_18 (fun H locs hw => ?_)
      exact hE hw (congrArg Prod.fst (Option.some.inj h)) (congrArg Prod.snd (Option.some.inj h)) dX6_type_21
    · replace h := it_f c2 h
      refine lv_bipush (v := -2) hx hb dX6_type_10 (by decide) ?_
      exact hE hw (congrArg Prod.fst (Option.some.inj h)) (congrArg Prod.snd (Option.some.inj h)) dX6_type_12
set_option maxHeartbeats 4000000 in
set_option maxRecDepth 100000 in
theorem c_X6_clearText (l : Launch) (K : vK) (ad : Nat → Nat) (hI : adInj 30 ad) (σ : vSt) {r : Int32} {σ' : vSt} (h : f_X6_clearText σ = some (r, σ')) : MCi l yX6_clearText (wsY yX6_clearText cX6_clearText 2 (some .int)) (rmF 1 0) K 30 ad (cC K ad) [.ref (ad 8)] σ r σ' := by
  refine MCi_of (own := RX6) (plainFor_of_name (by decide)) hI rfl (Nat.le_of_ble_eq_true rfl) ?_
  intro p e s m args below meth c A Q hx_E hE H locs ls hw hl
  have hx := hx_E.1; have hb := hx_E.2.1; have hown := hx_E.2.2.2.1; have hts := hx_E.2.2.2.2.1
  replace hl : lv_has ls 2 [(0, .ref (ad 8))] := hl
  unfold f_X6_clearText at h
  refine lv_aload_n hx hb dX6_clearText_0 rfl (lv_at hl 0 rfl) ?_
  refine gC_8_5 hx_E hw fl_X6_61 dX6_clearText_1 ?_
  refine gC_27_2 hx_E hw fl_X6_73 dX6_clearText_4 ?_
  obtain ⟨v1, e_v1, h⟩ := it_b h
  refine lt_topi (Option.some.inj e_v1) ?_
  refine lv_istore_n (lv' := [(1, .int v1), (0, .ref (ad 8))]) hx hb dX6_clearText_7 rfl hl (by decide) rfl (fun ls hl => ?_)
  refine lv_aload_n hx hb dX6_clearText_8 rfl (lv_at hl 1 rfl) ?_
  refine gC_8_5 hx_E hw fl_X6_61 dX6_clearText_9 ?_
  refine lv_iconst (v := 0) hx hb dX6_clearText_12 (by decide) ?_
  refine pC_27_2 hx_E hw fl_X6_73 dX6_clearText_13 (fun H locs hw => ?_)
  refine lv_iload_n hx hb dX6_clearText_16 rfl (lv_at hl 0 rfl) ?_
  exact hE hw (congrArg Prod.fst (Option.some.inj h)) (congrArg Prod.snd (Option.some.inj h)) dX6_clearText_17
set_option maxHeartbeats 4000000 in
set_option maxRecDepth 100000 in
theorem c_X5_rowIsWhole (l : Launch) (K : vK) (ad : Nat → Nat) (hI : adInj 30 ad) (σ : vSt) {r : Int32} (h : f_X5_rowIsWhole σ = some r) : MCz l yX5_rowIsWhole (wsY yX5_rowIsWhole cX5_rowIsWhole 1 (some .boolean)) (rmF 1 0) K 30 ad (cC K ad) [.ref (ad 27)] σ r σ := by
  refine MCz_of (own := RX5) (plainFor_of_name (by decide)) hI rfl (Nat.le_of_ble_eq_true rfl) ?_
  intro p e s m args below meth c A Q hx_E hE H locs ls hw hl
  have hx := hx_E.1; have hb := hx_E.2.1; have hown := hx_E.2.2.2.1; have hts := hx_E.2.2.2.2.1
  replace hl : lv_has ls 1 [(0, .ref (ad 27))] := hl
  unfold f_X5_rowIsWhole at h
  refine lv_aload_n hx hb dX5_rowIsWhole_0 rfl (lv_at hl 0 rfl) ?_
  refine gC_27_4 hx_E hw fl_X5_26 dX5_rowIsWhole_1 ?_
  refine lv_iconst (v := 1) hx hb dX5_rowIsWhole_4 (by decide) ?_
  refine lv_icmp_ne (tgt := 23) hx hb dX5_rowIsWhole_5 (by decide) (fun c1 => ?_) (fun c1 => ?_)
  · replace h := it_f c1 h
    refine lv_aload_n hx hb dX5_rowIsWhole_23 rfl (lv_at hl 0 rfl) ?_
    refine gC_27_5 hx_E hw fl_X5_29 dX5_rowIsWhole_24 ?_
    refine lv_aload_n hx hb dX5_rowIsWhole_27 rfl (lv_at hl 0 rfl) ?_
    refine gC_27_3 hx_E hw fl_X5_23 dX5_rowIsWhole_28 ?_
    refine lv_icmp_ne (tgt := 38) hx hb dX5_rowIsWhole_31 (by decide) (fun c2 => ?_) (fun c2 => ?_)
    · replace h := it_f c2 h
      refine lv_iconst (v := 0) hx hb dX5_rowIsWhole_38 (by decide) ?_
      exact hE hw (Option.some.inj h) rfl (Or.inl rfl) dX5_rowIsWhole_39
    · replace h := it_t c2 h
      refine lv_iconst (v := 1) hx hb dX5_rowIsWhole_34 (by decide) ?_
      refine lv_goto (tgt := 39) hx hb dX5_rowIsWhole_35 (by decide) ?_
      exact hE hw (Option.some.inj h) rfl (Or.inr rfl) dX5_rowIsWhole_39
  · replace h := it_t c1 h
    refine lv_aload_n hx hb dX5_rowIsWhole_8 rfl (lv_at hl 0 rfl) ?_
    refine gC_27_5 hx_E hw fl_X5_29 dX5_rowIsWhole_9 ?_
    refine lv_if_le (tgt := 19) hx hb dX5_rowIsWhole_12 (by decide) (fun c3 => ?_) (fun c3 => ?_)
    · replace h := it_t c3 h
      refine lv_iconst (v := 0) hx hb dX5_rowIsWhole_19 (by decide) ?_
      refine lv_goto (tgt := 39) hx hb dX5_rowIsWhole_20 (by decide) ?_
      exact hE hw (Option.some.inj h) rfl (Or.inl rfl) dX5_rowIsWhole_39
    · replace h := it_f c3 h
      refine lv_iconst (v := 1) hx hb dX5_rowIsWhole_15 (by decide) ?_
      refine lv_goto (tgt := 39) hx hb dX5_rowIsWhole_16 (by decide) ?_
      exact hE hw (Option.some.inj h) rfl (Or.inr rfl) dX5_rowIsWhole_39
set_option maxHeartbeats 4000000 in
set_option maxRecDepth 100000 in
theorem c_X5_beginRow (l : Launch) (K : vK) (ad : Nat → Nat) (hI : adInj 30 ad) (σ : vSt) {r : Int32} {σ' : vSt} (h : f_X5_beginRow σ = some (r, σ')) : MCz l yX5_beginRow (wsY yX5_beginRow cX5_beginRow 1 (some .boolean)) (rmF 2 20) K 30 ad (cC K ad) [.ref (ad 27)] σ r σ' := by
  refine MCz_of (own := RX5) (plainFor_of_name (by decide)) hI rfl (Nat.le_of_ble_eq_true rfl) ?_
  intro p e s m args below meth c A Q hx_E hE H locs ls hw hl
  have hx := hx_E.1; have hb := hx_E.2.1; have hown := hx_E.2.2.2.1; have hts := hx_E.2.2.2.2.1
  replace hl : lv_has ls 1 [(0, .ref (ad 27))] := hl
  unfold f_X5_beginRow at h
  refine lv_aload_n hx hb dX5_beginRow_0 rfl (lv_at hl 0 rfl) ?_
  obtain ⟨v1, k2, h⟩ := it_b h
  refine kV_z (As := []) (rest := []) (q := 27) hx_E hw (c_X5_rowIsWhole l K ad hI   σ k2) mi_X5_rowIsWhole mv_X5_rowIsWhole ml_X5_40 (by decide) rfl rfl rfl ⟨⟨Nat.le_of_ble_eq_true rfl, Nat.le_of_ble_eq_true rfl⟩, rfl, rfl⟩ ⟨Nat.zero_le _, Nat.zero_le _⟩ hl.1 rfl (Nat.le_of_ble_eq_true rfl) dX5_beginRow_1 (fun z3 H locs hw => ?_)
  refine lv_if_eq (tgt := 15) hx hb dX5_beginRow_4 (by decide) (fun c4 => ?_) (fun c4 => ?_)
  · replace h := it_t c4 h
    refine lv_iconst (v := 0) hx hb dX5_beginRow_15 (by decide) ?_
    exact hE hw (congrArg Prod.fst (Option.some.inj h)) (congrArg Prod.snd (Option.some.inj h)) (Or.inl rfl) dX5_beginRow_16
  · replace h := it_f c4 h
    refine lv_aload_n hx hb dX5_beginRow_7 rfl (lv_at hl 0 rfl) ?_
    refine gC_27_4 hx_E hw fl_X5_26 dX5_beginRow_8 ?_
    refine lv_iconst (v := 4) hx hb dX5_beginRow_11 (by decide) ?_
    refine lv_icmp_ne (tgt := 17) hx hb dX5_beginRow_12 (by decide) (fun c5 => ?_) (fun c5 => ?_)
    · replace h := it_f c5 h
      refine lv_aload_n hx hb dX5_beginRow_17 rfl (lv_at hl 0 rfl) ?_
      refine lv_aload_n hx hb dX5_beginRow_18 rfl (lv_at hl 0 rfl) ?_
      refine gC_27_5 hx_E hw fl_X5_29 dX5_beginRow_19 ?_
      refine pC_27_3 hx_E hw fl_X5_23 dX5_beginRow_22 (fun H locs hw => ?_)
      refine lv_aload_n hx hb dX5_beginRow_25 rfl (lv_at hl 0 rfl) ?_
      refine lv_dup hx hb dX5_beginRow_26 rfl ?_
      refine gC_27_4 hx_E hw fl_X5_26 dX5_beginRow_27 ?_
      refine lv_iconst (v := 1) hx hb dX5_beginRow_30 (by decide) ?_
      refine lv_iadd hx hb dX5_beginRow_31 ?_
      refine pC_27_4 hx_E hw fl_X5_26 dX5_beginRow_32 (fun H locs hw => ?_)
      refine lv_aload_n hx hb dX5_beginRow_35 rfl (lv_at hl 0 rfl) ?_
      refine lv_iconst (v := 0) hx hb dX5_beginRow_36 (by decide) ?_
      refine pC_27_5 hx_E hw fl_X5_29 dX5_beginRow_37 (fun H locs hw => ?_)
      refine lv_iconst (v := 1) hx hb dX5_beginRow_40 (by decide) ?_
      exact hE hw (congrArg Prod.fst (Option.some.inj h)) (congrArg Prod.snd (Option.some.inj h)) (Or.inr rfl) dX5_beginRow_41
    · replace h := it_t c5 h
      refine lv_iconst (v := 0) hx hb dX5_beginRow_15 (by decide) ?_
      exact hE hw (congrArg Prod.fst (Option.some.inj h)) (congrArg Prod.snd (Option.some.inj h)) (Or.inl rfl) dX5_beginRow_16
set_option maxHeartbeats 4000000 in
set_option maxRecDepth 100000 in
theorem c_X5_isCell (l : Launch) (K : vK) (l0 : Int32) {r : Int32} (h : f_X5_isCell l0 = some r) : MCz l yX5_isCell (wsY yX5_isCell cX5_isCell 1 (some .boolean)) (rmF 1 0) K 0 ad_0 (cf_0) [.int l0] st_0 r st_0 := by
  refine MCz_of (own := RX5) (plainFor_of_name (by decide)) adInj_0 rfl (Nat.le_of_ble_eq_true rfl) ?_
  intro p e s m args below meth c A Q hx_E hE H locs ls hw hl
  have hx := hx_E.1; have hb := hx_E.2.1; have hown := hx_E.2.2.2.1; have hts := hx_E.2.2.2.2.1
  replace hl : lv_has ls 1 [(0, .int l0)] := hl
  unfold f_X5_isCell at h
  refine lv_iload_n hx hb dX5_isCell_0 rfl (lv_at hl 0 rfl) ?_
  refine lv_bipush (v := 46) hx hb dX5_isCell_1 (by decide) ?_
  refine lv_icmp_eq (tgt := 18) hx hb dX5_isCell_3 (by decide) (fun c1 => ?_) (fun c1 => ?_)
  · replace h := it_t c1 h
    refine lv_iconst (v := 1) hx hb dX5_isCell_18 (by decide) ?_
    refine lv_goto (tgt := 23) hx hb dX5_isCell_19 (by decide) ?_
    exact hE hw (Option.some.inj h) rfl (Or.inr rfl) dX5_isCell_23
  · replace h := it_f c1 h
    refine lv_iload_n hx hb dX5_isCell_6 rfl (lv_at hl 0 rfl) ?_
    refine lv_bipush (v := 48) hx hb dX5_isCell_7 (by decide) ?_
    refine lv_icmp_lt (tgt := 22) hx hb dX5_isCell_9 (by decide) (fun c2 => ?_) (fun c2 => ?_)
    · replace h := it_t c2 h
      refine lv_iconst (v := 0) hx hb dX5_isCell_22 (by decide) ?_
      exact hE hw (Option.some.inj h) rfl (Or.inl rfl) dX5_isCell_23
    · replace h := it_f c2 h
      refine lv_iload_n hx hb dX5_isCell_12 rfl (lv_at hl 0 rfl) ?_
      refine lv_bipush (v := 51) hx hb dX5_isCell_13 (by decide) ?_
      refine lv_icmp_gt (tgt := 22) hx hb dX5_isCell_15 (by decide) (fun c3 => ?_) (fun c3 => ?_)
      · replace h := it_t c3 h
        refine lv_iconst (v := 0) hx hb dX5_isCell_22 (by decide) ?_
        exact hE hw (Option.some.inj h) rfl (Or.inl rfl) dX5_isCell_23
      · replace h := it_f c3 h
        refine lv_iconst (v := 1) hx hb dX5_isCell_18 (by decide) ?_
        refine lv_goto (tgt := 23) hx hb dX5_isCell_19 (by decide) ?_
        exact hE hw (Option.some.inj h) rfl (Or.inr rfl) dX5_isCell_23
set_option maxHeartbeats 4000000 in
set_option maxRecDepth 100000 in
theorem c_X5_addCell (l : Launch) (K : vK) (ad : Nat → Nat) (hI : adInj 30 ad) (l1 : Int32) (σ : vSt) {r : Int32} {σ' : vSt} (h : f_X5_addCell l1 σ = some (r, σ')) : MCz l yX5_addCell (wsY yX5_addCell cX5_addCell 3 (some .boolean)) (rmF 2 20) K 30 ad (cC K ad) [.ref (ad 27), .int l1] σ r σ' := by
  refine MCz_of (own := RX5) (plainFor_of_name (by decide)) hI rfl (Nat.le_of_ble_eq_true rfl) ?_
  intro p e s m args below meth c A Q hx_E hE H locs ls hw hl
  have hx := hx_E.1; have hb := hx_E.2.1; have hown := hx_E.2.2.2.1; have hts := hx_E.2.2.2.2.1
  replace hl : lv_has ls 3 [(0, .ref (ad 27)), (1, .int l1)] := hl
  unfold f_X5_addCell at h
  refine lv_aload_n hx hb dX5_addCell_0 rfl (lv_at hl 0 rfl) ?_
  refine gC_27_4 hx_E hw fl_X5_26 dX5_addCell_1 ?_
  refine lv_iconst (v := 1) hx hb dX5_addCell_4 (by decide) ?_
  refine lv_isub hx hb dX5_addCell_5 ?_
  refine lv_aload_n hx hb dX5_addCell_6 rfl (lv_at hl 0 rfl) ?_
  refine gC_27_3 hx_E hw fl_X5_23 dX5_addCell_7 ?_
  refine lv_imul hx hb dX5_addCell_10 ?_
  refine lv_aload_n hx hb dX5_addCell_11 rfl (lv_at hl 0 rfl) ?_
  refine gC_27_5 hx_E hw fl_X5_29 dX5_addCell_12 ?_
  refine lv_iadd hx hb dX5_addCell_15 ?_
  obtain ⟨v1, e_v1, h⟩ := it_b h
  refine lt_topi (Option.some.inj e_v1) ?_
  refine lv_istore_n (lv' := [(2, .int v1), (0, .ref (ad 27)), (1, .int l1)]) hx hb dX5_addCell_16 rfl hl (by decide) rfl (fun ls hl => ?_)
  refine lv_iload_n hx hb dX5_addCell_17 rfl (lv_at hl 2 rfl) ?_
  obtain ⟨v2, k3, h⟩ := it_b h
  refine kS_z (As := [.int l1]) (rest := []) hx_E hw (c_X5_isCell l K l1 k3) mi_X5_isCell sm_X5_isCell ml_X5_43 rfl ⟨⟨Nat.le_of_ble_eq_true rfl, Nat.le_of_ble_eq_true rfl⟩, rfl, rfl⟩ ⟨Nat.zero_le _, Nat.zero_le _⟩ hl.1 rfl (Nat.le_of_ble_eq_true rfl) dX5_addCell_18 (fun z4 H locs hw => ?_)
  refine lv_if_eq (tgt := 45) hx hb dX5_addCell_21 (by decide) (fun c5 => ?_) (fun c5 => ?_)
  · replace h := it_t c5 h
    refine lv_iconst (v := 0) hx hb dX5_addCell_45 (by decide) ?_
    exact hE hw (congrArg Prod.fst (Option.some.inj h)) (congrArg Prod.snd (Option.some.inj h)) (Or.inl rfl) dX5_addCell_46
  · replace h := it_f c5 h
    refine lv_aload_n hx hb dX5_addCell_24 rfl (lv_at hl 1 rfl) ?_
    refine gC_27_5 hx_E hw fl_X5_29 dX5_addCell_25 ?_
    refine lv_aload_n hx hb dX5_addCell_28 rfl (lv_at hl 1 rfl) ?_
    refine gC_27_3 hx_E hw fl_X5_23 dX5_addCell_29 ?_
    refine lv_icmp_ge (tgt := 45) hx hb dX5_addCell_32 (by decide) (fun c6 => ?_) (fun c6 => ?_)
    · replace h := it_t c6 h
      refine lv_iconst (v := 0) hx hb dX5_addCell_45 (by decide) ?_
      exact hE hw (congrArg Prod.fst (Option.some.inj h)) (congrArg Prod.snd (Option.some.inj h)) (Or.inl rfl) dX5_addCell_46
    · replace h := it_f c6 h
      refine lv_iload_n hx hb dX5_addCell_35 rfl (lv_at hl 0 rfl) ?_
      refine lv_if_lt (tgt := 45) hx hb dX5_addCell_36 (by decide) (fun c7 => ?_) (fun c7 => ?_)
      · replace h := it_t c7 h
        refine lv_iconst (v := 0) hx hb dX5_addCell_45 (by decide) ?_
        exact hE hw (congrArg Prod.fst (Option.some.inj h)) (congrArg Prod.snd (Option.some.inj h)) (Or.inl rfl) dX5_addCell_46
      · replace h := it_f c7 h
        refine lv_iload_n hx hb dX5_addCell_39 rfl (lv_at hl 0 rfl) ?_
        refine lv_bipush (v := 16) hx hb dX5_addCell_40 (by decide) ?_
        refine lv_icmp_lt (tgt := 47) hx hb dX5_addCell_42 (by decide) (fun c8 => ?_) (fun c8 => ?_)
        · replace h := it_t c8 h
          refine lv_aload_n hx hb dX5_addCell_47 rfl (lv_at hl 1 rfl) ?_
          refine gC_27_1 hx_E hw fl_X5_15 dX5_addCell_48 ?_
          refine lv_iload_n hx hb dX5_addCell_51 rfl (lv_at hl 0 rfl) ?_
          refine lv_iload_n hx hb dX5_addCell_52 rfl (lv_at hl 2 rfl) ?_
          refine lv_bipush (v := 46) hx hb dX5_addCell_53 (by decide) ?_
          refine lv_icmp_ne (tgt := 62) hx hb dX5_addCell_55 (by decide) (fun c9 => ?_) (fun c9 => ?_)
          · replace h := it_f c9 h
            refine lv_iload_n hx hb dX5_addCell_62 rfl (lv_at hl 2 rfl) ?_
            refine lv_bipush (v := 48) hx hb dX5_addCell_63 (by decide) ?_
            refine lv_isub hx hb dX5_addCell_65 ?_
            obtain ⟨g10, h⟩ := it_g h
            refine sC_29 hx_E hw g10 dX5_addCell_66 (fun H locs hw => ?_)
            refine lv_aload_n hx hb dX5_addCell_67 rfl (lv_at hl 1 rfl) ?_
            refine lv_dup hx hb dX5_addCell_68 rfl ?_
            refine gC_27_5 hx_E hw fl_X5_29 dX5_addCell_69 ?_
            refine lv_iconst (v := 1) hx hb dX5_addCell_72 (by decide) ?_
            refine lv_iadd hx hb dX5_addCell_73 ?_
            refine pC_27_5 hx_E hw fl_X5_29 dX5_addCell_74 (fun H locs hw => ?_)
            refine lv_iconst (v := 1) hx hb dX5_addCell_77 (by decide) ?_
            exact hE hw (congrArg Prod.fst (Option.some.inj h)) (congrArg Prod.snd (Option.some.inj h)) (Or.inr rfl) dX5_addCell_78
          · replace h := it_t c9 h
            refine lv_iconst (v := -1) hx hb dX5_addCell_58 (by decide) ?_
            refine lv_goto (tgt := 66) hx hb dX5_addCell_59 (by decide) ?_
            obtain ⟨g11, h⟩ := it_g h
            refine sC_29 hx_E hw g11 dX5_addCell_66 (fun H locs hw => ?_)
            refine lv_aload_n hx hb dX5_addCell_67 rfl (lv_at hl 1 rfl) ?_
            refine lv_dup hx hb dX5_addCell_68 rfl ?_
            refine gC_27_5 hx_E hw fl_X5_29 dX5_addCell_69 ?_
            refine lv_iconst (v := 1) hx hb dX5_addCell_72 (by decide) ?_
            refine lv_iadd hx hb dX5_addCell_73 ?_
            refine pC_27_5 hx_E hw fl_X5_29 dX5_addCell_74 (fun H locs hw => ?_)
            refine lv_iconst (v := 1) hx hb dX5_addCell_77 (by decide) ?_
            exact hE hw (congrArg Prod.fst (Option.some.inj h)) (congrArg Prod.snd (Option.some.inj h)) (Or.inr rfl) dX5_addCell_78
        · replace h := it_f c8 h
          refine lv_iconst (v := 0) hx hb dX5_addCell_45 (by decide) ?_
          exact hE hw (congrArg Prod.fst (Option.some.inj h)) (congrArg Prod.snd (Option.some.inj h)) (Or.inl rfl) dX5_addCell_46
set_option maxHeartbeats 4000000 in
set_option maxRecDepth 100000 in
theorem c_X5_read (l : Launch) (K : vK) (ad : Nat → Nat) (hI : adInj 30 ad) (σ : vSt) {r : Int32} {σ' : vSt} (h : f_X5_read σ = some (r, σ')) : MCi l yX5_read (wsY yX5_read cX5_read 4 (some .int)) (rmF 3 42) K 30 ad (cC K ad) [.ref (ad 27)] σ r σ' := by
  refine MCi_of (own := RX5) (plainFor_of_name (by decide)) hI rfl (Nat.le_of_ble_eq_true rfl) ?_
  intro p e s m args below meth c A Q hx_E hE H locs ls hw hl
  have hx := hx_E.1; have hb := hx_E.2.1; have hown := hx_E.2.2.2.1; have hts := hx_E.2.2.2.2.1
  replace hl : lv_has ls 4 [(0, .ref (ad 27))] := hl
  unfold f_X5_read at h
  refine lv_aload_n hx hb dX5_read_0 rfl (lv_at hl 0 rfl) ?_
  refine lv_iconst (v := 4) hx hb dX5_read_1 (by decide) ?_
  refine pC_27_3 hx_E hw fl_X5_23 dX5_read_2 (fun H locs hw => ?_)
  refine lv_aload_n hx hb dX5_read_5 rfl (lv_at hl 0 rfl) ?_
  refine lv_iconst (v := 1) hx hb dX5_read_6 (by decide) ?_
  refine pC_27_4 hx_E hw fl_X5_26 dX5_read_7 (fun H locs hw => ?_)
  refine lv_aload_n hx hb dX5_read_10 rfl (lv_at hl 0 rfl) ?_
  refine lv_iconst (v := 0) hx hb dX5_read_11 (by decide) ?_
  refine pC_27_5 hx_E hw fl_X5_29 dX5_read_12 (fun H locs hw => ?_)
  refine lv_iconst (v := 0) hx hb dX5_read_15 (by decide) ?_
  refine lv_istore_n (lv' := [(1, .int (0 : Int32)), (0, .ref (ad 27))]) hx hb dX5_read_16 rfl hl (by decide) rfl (fun ls hl => ?_)
  obtain ⟨σ1, e_σ1, h⟩ := it_b h
  replace hw := PW_cast (Option.some.inj e_σ1) hw
  obtain ⟨φ7, h9, h_φ7⟩ := it_b h
  have hJ6 : ∀ (σ4 : vSt), .inr σ4 = φ7 → ∀ (H : Heap) (locs : List Loc) (ls : Array Slot), PW K 30 ad (cC K ad) A s.heap σ4 H locs → lv_has ls 4 [(0, .ref (ad 27))] → W p l e (rmF 3 42) s m args below meth c H locs 0 0 Q (F0 m 86 ls []) := by
    intro σ4 e9 H locs ls hw hl
    subst e9
    replace h := h_φ7
    refine lv_aload_n hx hb dX5_read_86 rfl (lv_at hl 0 rfl) ?_
    obtain ⟨v29, k30, h⟩ := it_b h
    refine kV_z (As := []) (rest := []) (q := 27) hx_E hw (c_X5_rowIsWhole l K ad hI   σ4 k30) mi_X5_rowIsWhole mv_X5_rowIsWhole ml_X5_40 (by decide) rfl rfl rfl ⟨⟨Nat.le_of_ble_eq_true rfl, Nat.le_of_ble_eq_true rfl⟩, rfl, rfl⟩ ⟨Nat.zero_le _, Nat.zero_le _⟩ hl.1 rfl (Nat.le_of_ble_eq_true rfl) dX5_read_87 (fun z31 H locs hw => ?_)
    refine lv_if_ne (tgt := 98) hx hb dX5_read_90 (by decide) (fun c32 => ?_) (fun c32 => ?_)
    · replace h := it_f c32 h
      refine lv_aload_n hx hb dX5_read_98 rfl (lv_at hl 0 rfl) ?_
      refine lv_aload_n hx hb dX5_read_99 rfl (lv_at hl 0 rfl) ?_
      refine gC_27_5 hx_E hw fl_X5_29 dX5_read_100 ?_
      refine pC_27_3 hx_E hw fl_X5_23 dX5_read_103 (fun H locs hw => ?_)
      refine lv_iconst (v := -1) hx hb dX5_read_106 (by decide) ?_
      exact hE hw (congrArg Prod.fst (Option.some.inj h)) (congrArg Prod.snd (Option.some.inj h)) dX5_read_107
    · replace h := it_t c32 h
      refine lv_aload_n hx hb dX5_read_93 rfl (lv_at hl 0 rfl) ?_
      refine gC_27_2 hx_E hw fl_X5_19 dX5_read_94 ?_
      exact hE hw (congrArg Prod.fst (Option.some.inj h)) (congrArg Prod.snd (Option.some.inj h)) dX5_read_97
  have hL5 : ∀ (n9 : Nat) (v2 : Int32) (σ3 : vSt), ∀ (H : Heap) (locs : List Loc) (ls : Array Slot), f_X5_read_17  n9 v2 σ3 = some φ7 → PW K 30 ad (cC K ad) A s.heap σ3 H locs → lv_has ls 4 [(0, .ref (ad 27)), (1, .int v2)] → W p l e (rmF 3 42) s m args below meth c H locs 0 0 Q (F0 m 17 ls []) := by
    intro n9
    induction n9 with
    | zero => intro v2 σ3 H locs ls h hw hl; rw [f_X5_read_17.eq_1] at h; exact it_n h
    | succ n9 ih =>
      intro v2 σ3 H locs ls h hw hl
      rw [f_X5_read_17.eq_2] at h
      refine lv_iload_n hx hb dX5_read_17 rfl (lv_at hl 1 rfl) ?_
      refine lv_aload_n hx hb dX5_read_18 rfl (lv_at hl 0 rfl) ?_
      refine gC_27_2 hx_E hw fl_X5_19 dX5_read_19 ?_
      refine lv_icmp_ge (tgt := 86) hx hb dX5_read_22 (by decide) (fun c8 => ?_) (fun c8 => ?_)
      · replace h := it_t c8 h
        have e9 := Option.some.inj h
        subst e9
        exact hJ6 _ rfl  H locs ls hw (lv_sub hl [0] rfl)
      · replace h := it_f c8 h
        refine lv_iload_n hx hb dX5_read_25 rfl (lv_at hl 1 rfl) ?_
        refine lv_bipush (v := 40) hx hb dX5_read_26 (by decide) ?_
        refine lv_icmp_ge (tgt := 86) hx hb dX5_read_28 (by decide) (fun c9 => ?_) (fun c9 => ?_)
        · replace h := it_t c9 h
          have e9 := Option.some.inj h
          subst e9
          exact hJ6 _ rfl  H locs ls hw (lv_sub hl [0] rfl)
        · replace h := it_f c9 h
          refine lv_aload_n hx hb dX5_read_31 rfl (lv_at hl 0 rfl) ?_
          refine gC_27_0 hx_E hw fl_X5_9 dX5_read_32 ?_
          refine lv_iload_n hx hb dX5_read_35 rfl (lv_at hl 1 rfl) ?_
          obtain ⟨g10, h⟩ := it_g h
          refine aC_28 hx_E hw g10 dX5_read_36 ?_
          obtain ⟨v11, e_v11, h⟩ := it_b h
          refine lt_topi (Option.some.inj e_v11) ?_
          refine lv_istore_n (lv' := [(2, .int v11), (0, .ref (ad 27)), (1, .int v2)]) hx hb dX5_read_37 rfl hl (by decide) rfl (fun ls hl => ?_)
          refine lv_iload_n hx hb dX5_read_38 rfl (lv_at hl 0 rfl) ?_
          refine lv_bipush (v := 32) hx hb dX5_read_39 (by decide) ?_
          obtain ⟨φ16, h9, h_φ16⟩ := it_b h
          have hJ15 : ∀ (v13 : Int32) (σ14 : vSt), (v13, σ14) = φ16 → (v13 = 0 ∨ v13 = 1) → ∀ (H : Heap) (locs : List Loc) (ls : Array Slot), PW K 30 ad (cC K ad) A s.heap σ14 H locs → lv_has ls 4 [(0, .ref (ad 27)), (1, .int v2)] → W p l e (rmF 3 42) s m args below meth c H locs 0 0 Q (F0 m 73 ls [.int v13]) := by
            intro v13 σ14 e9 z_v13 H locs ls hw hl
            subst e9
            replace h := h_φ16
            refine lv_istore_n (lv' := [(3, .int v13), (0, .ref (ad 27)), (1, .int v2)]) hx hb dX5_read_73 rfl hl (by decide) rfl (fun ls hl => ?_)
            refine lv_iload_n hx hb dX5_read_74 rfl (lv_at hl 0 rfl) ?_
            refine lv_if_ne (tgt := 80) hx hb dX5_read_75 (by decide) (fun c28 => ?_) (fun c28 => ?_)
            · replace h := it_f c28 h
              refine lv_iinc (v := (v2 + 1)) (lv' := [(1, .int (v2 + 1)), (3, .int v13), (0, .ref (ad 27))]) hx hb dX5_read_80 hl (k := 2) rfl rfl (by decide) rfl (fun ls hl => ?_)
              refine lv_goto (tgt := 17) hx hb dX5_read_83 (by decide) ?_
              exact ih _ _   H locs ls h hw (lv_sub hl [2, 0] rfl)
            · replace h := it_t c28 h
              refine lv_iload_n hx hb dX5_read_78 rfl (lv_at hl 2 rfl) ?_
              have e9 := Option.some.inj h
              subst e9
              replace h := h_φ7
              exact hE hw (congrArg Prod.fst (Option.some.inj h)) (congrArg Prod.snd (Option.some.inj h)) dX5_read_79
          replace h := h9
          refine lv_icmp_eq (tgt := 68) hx hb dX5_read_41 (by decide) (fun c12 => ?_) (fun c12 => ?_)
          · replace h := it_t c12 h
            refine lv_iconst (v := 1) hx hb dX5_read_68 (by decide) ?_
            refine lv_goto (tgt := 73) hx hb dX5_read_69 (by decide) ?_
            have e9 := Option.some.inj h
            subst e9
            exact hJ15 _ _ rfl (Or.inr rfl) H locs ls hw (lv_sub hl [1, 2] rfl)
          · replace h := it_f c12 h
            refine lv_iload_n hx hb dX5_read_44 rfl (lv_at hl 0 rfl) ?_
            refine lv_bipush (v := 47) hx hb dX5_read_45 (by decide) ?_
            refine lv_icmp_ne (tgt := 60) hx hb dX5_read_47 (by decide) (fun c17 => ?_) (fun c17 => ?_)
            · replace h := it_f c17 h
              refine lv_aload_n hx hb dX5_read_60 rfl (lv_at hl 1 rfl) ?_
              refine lv_iload_n hx hb dX5_read_61 rfl (lv_at hl 0 rfl) ?_
              obtain ⟨⟨v18, σ19⟩, k20, h⟩ := it_b h
              refine kV_z (As := [.int v11]) (rest := []) (q := 27) hx_E hw (c_X5_addCell l K ad hI  v11 σ3 k20) mi_X5_addCell mv_X5_addCell ml_X5_36 (by decide) rfl rfl rfl ⟨⟨Nat.le_of_ble_eq_true rfl, Nat.le_of_ble_eq_true rfl⟩, rfl, rfl⟩ ⟨Nat.zero_le _, Nat.zero_le _⟩ hl.1 rfl (Nat.le_of_ble_eq_true rfl) dX5_read_62 (fun z21 H locs hw => ?_)
              refine lv_if_eq (tgt := 72) hx hb dX5_read_65 (by decide) (fun c22 => ?_) (fun c22 => ?_)
              · replace h := it_t c22 h
                refine lv_iconst (v := 0) hx hb dX5_read_72 (by decide) ?_
                have e9 := Option.some.inj h
                subst e9
                exact hJ15 _ _ rfl (Or.inl rfl) H locs ls hw (lv_sub hl [1, 2] rfl)
              · replace h := it_f c22 h
                refine lv_iconst (v := 1) hx hb dX5_read_68 (by decide) ?_
                refine lv_goto (tgt := 73) hx hb dX5_read_69 (by decide) ?_
                have e9 := Option.some.inj h
                subst e9
                exact hJ15 _ _ rfl (Or.inr rfl) H locs ls hw (lv_sub hl [1, 2] rfl)
            · replace h := it_t c17 h
              refine lv_aload_n hx hb dX5_read_50 rfl (lv_at hl 1 rfl) ?_
              obtain ⟨⟨v23, σ24⟩, k25, h⟩ := it_b h
              refine kV_z (As := []) (rest := []) (q := 27) hx_E hw (c_X5_beginRow l K ad hI   σ3 k25) mi_X5_beginRow mv_X5_beginRow ml_X5_32 (by decide) rfl rfl rfl ⟨⟨Nat.le_of_ble_eq_true rfl, Nat.le_of_ble_eq_true rfl⟩, rfl, rfl⟩ ⟨Nat.zero_le _, Nat.zero_le _⟩ hl.1 rfl (Nat.le_of_ble_eq_true rfl) dX5_read_51 (fun z26 H locs hw => ?_)
              refine lv_if_eq (tgt := 72) hx hb dX5_read_54 (by decide) (fun c27 => ?_) (fun c27 => ?_)
              · replace h := it_t c27 h
                refine lv_iconst (v := 0) hx hb dX5_read_72 (by decide) ?_
                have e9 := Option.some.inj h
                subst e9
                exact hJ15 _ _ rfl (Or.inl rfl) H locs ls hw (lv_sub hl [1, 2] rfl)
              · replace h := it_f c27 h
                refine lv_goto (tgt := 68) hx hb dX5_read_57 (by decide) ?_
                refine lv_iconst (v := 1) hx hb dX5_read_68 (by decide) ?_
                refine lv_goto (tgt := 73) hx hb dX5_read_69 (by decide) ?_
                have e9 := Option.some.inj h
                subst e9
                exact hJ15 _ _ rfl (Or.inr rfl) H locs ls hw (lv_sub hl [1, 2] rfl)
  exact hL5 600 _ _   H locs ls h9 hw (lv_sub hl [1, 0] rfl)
set_option maxHeartbeats 4000000 in
set_option maxRecDepth 100000 in
theorem c_X6_fault (l : Launch) (K : vK) (ad : Nat → Nat) (hI : adInj 30 ad) (σ : vSt) {r : Int32} {σ' : vSt} (h : f_X6_fault σ = some (r, σ')) : MCi l yX6_fault (wsY yX6_fault cX6_fault 1 (some .int)) (rmF 4 65) K 30 ad (cC K ad) [.ref (ad 8)] σ r σ' := by
  refine MCi_of (own := RX6) (plainFor_of_name (by decide)) hI rfl (Nat.le_of_ble_eq_true rfl) ?_
  intro p e s m args below meth c A Q hx_E hE H locs ls hw hl
  have hx := hx_E.1; have hb := hx_E.2.1; have hown := hx_E.2.2.2.1; have hts := hx_E.2.2.2.2.1
  replace hl : lv_has ls 1 [(0, .ref (ad 8))] := hl
  unfold f_X6_fault at h
  refine lv_aload_n hx hb dX6_fault_0 rfl (lv_at hl 0 rfl) ?_
  refine gC_8_5 hx_E hw fl_X6_61 dX6_fault_1 ?_
  obtain ⟨⟨v1, σ2⟩, k3, h⟩ := it_b h
  refine kV_i (As := []) (rest := []) (q := 27) hx_E hw (c_X5_read l K ad hI   σ k3) mi_X5_read mv_X5_read ml_X6_77 (by decide) rfl rfl rfl ⟨⟨Nat.le_of_ble_eq_true rfl, Nat.le_of_ble_eq_true rfl⟩, rfl, rfl⟩ ⟨Nat.zero_le _, Nat.zero_le _⟩ hl.1 rfl (Nat.le_of_ble_eq_true rfl) dX6_fault_4 (fun H locs hw => ?_)
  exact hE hw (congrArg Prod.fst (Option.some.inj h)) (congrArg Prod.snd (Option.some.inj h)) dX6_fault_7
set_option maxHeartbeats 4000000 in
set_option maxRecDepth 100000 in
theorem c_J9_floorMod_7cf53 (l : Launch) (K : vK) (l0 : Int32) (l1 : Int32) {r : Int32} (h : f_J9_floorMod_7cf53 l0 l1 = some r) : MCi l yJ9_floorMod_7cf53 (wsY yJ9_floorMod_7cf53 cJ9_floorMod_7cf53 3 (some .int)) (rmF 1 0) K 0 ad_0 (cf_0) [.int l0, .int l1] st_0 r st_0 := by
  refine MCi_of (own := RJ9) pf_J9_floorMod_7cf53 adInj_0 rfl (Nat.le_of_ble_eq_true rfl) ?_
  intro p e s m args below meth c A Q hx_E hE H locs ls hw hl
  have hx := hx_E.1; have hb := hx_E.2.1; have hown := hx_E.2.2.2.1; have hts := hx_E.2.2.2.2.1
  replace hl : lv_has ls 3 [(0, .int l0), (1, .int l1)] := hl
  unfold f_J9_floorMod_7cf53 at h
  refine lv_iload_n hx hb dJ9_floorMod_7cf53_0 rfl (lv_at hl 0 rfl) ?_
  refine lv_iload_n hx hb dJ9_floorMod_7cf53_1 rfl (lv_at hl 1 rfl) ?_
  obtain ⟨g1, h⟩ := it_g h
  refine lv_irem hx hb dJ9_floorMod_7cf53_2 g1 ?_
  obtain ⟨v2, e_v2, h⟩ := it_b h
  refine lt_topi (Option.some.inj e_v2) ?_
  refine lv_istore_n (lv' := [(2, .int v2), (0, .int l0), (1, .int l1)]) hx hb dJ9_floorMod_7cf53_3 rfl hl (by decide) rfl (fun ls hl => ?_)
  refine lv_iload_n hx hb dJ9_floorMod_7cf53_4 rfl (lv_at hl 1 rfl) ?_
  refine lv_iload_n hx hb dJ9_floorMod_7cf53_5 rfl (lv_at hl 2 rfl) ?_
  refine lv_ixor hx hb dJ9_floorMod_7cf53_6 ?_
  refine lv_if_ge (tgt := 18) hx hb dJ9_floorMod_7cf53_7 (by decide) (fun c3 => ?_) (fun c3 => ?_)
  · replace h := it_t c3 h
    refine lv_iload_n hx hb dJ9_floorMod_7cf53_18 rfl (lv_at hl 0 rfl) ?_
    exact hE hw (Option.some.inj h) rfl dJ9_floorMod_7cf53_19
  · replace h := it_f c3 h
    refine lv_iload_n hx hb dJ9_floorMod_7cf53_10 rfl (lv_at hl 0 rfl) ?_
    refine lv_if_eq (tgt := 18) hx hb dJ9_floorMod_7cf53_11 (by decide) (fun c4 => ?_) (fun c4 => ?_)
    · replace h := it_t c4 h
      refine lv_iload_n hx hb dJ9_floorMod_7cf53_18 rfl (lv_at hl 0 rfl) ?_
      exact hE hw (Option.some.inj h) rfl dJ9_floorMod_7cf53_19
    · replace h := it_f c4 h
      refine lv_iload_n hx hb dJ9_floorMod_7cf53_14 rfl (lv_at hl 0 rfl) ?_
      refine lv_iload_n hx hb dJ9_floorMod_7cf53_15 rfl (lv_at hl 2 rfl) ?_
      refine lv_iadd hx hb dJ9_floorMod_7cf53_16 ?_
      exact hE hw (Option.some.inj h) rfl dJ9_floorMod_7cf53_17
set_option maxHeartbeats 4000000 in
set_option maxRecDepth 100000 in
theorem c_J9_min_7cf53 (l : Launch) (K : vK) (l0 : Int32) (l1 : Int32) {r : Int32} (h : f_J9_min_7cf53 l0 l1 = some r) : MCi l yJ9_min_7cf53 (wsY yJ9_min_7cf53 cJ9_min_7cf53 2 (some .int)) (rmF 1 0) K 0 ad_0 (cf_0) [.int l0, .int l1] st_0 r st_0 := by
  refine MCi_of (own := RJ9) pf_J9_min_7cf53 adInj_0 rfl (Nat.le_of_ble_eq_true rfl) ?_
  intro p e s m args below meth c A Q hx_E hE H locs ls hw hl
  have hx := hx_E.1; have hb := hx_E.2.1; have hown := hx_E.2.2.2.1; have hts := hx_E.2.2.2.2.1
  replace hl : lv_has ls 2 [(0, .int l0), (1, .int l1)] := hl
  unfold f_J9_min_7cf53 at h
  refine lv_iload_n hx hb dJ9_min_7cf53_0 rfl (lv_at hl 0 rfl) ?_
  refine lv_iload_n hx hb dJ9_min_7cf53_1 rfl (lv_at hl 1 rfl) ?_
  refine lv_icmp_gt (tgt := 9) hx hb dJ9_min_7cf53_2 (by decide) (fun c1 => ?_) (fun c1 => ?_)
  · replace h := it_t c1 h
    refine lv_iload_n hx hb dJ9_min_7cf53_9 rfl (lv_at hl 1 rfl) ?_
    exact hE hw (Option.some.inj h) rfl dJ9_min_7cf53_10
  · replace h := it_f c1 h
    refine lv_iload_n hx hb dJ9_min_7cf53_5 rfl (lv_at hl 0 rfl) ?_
    refine lv_goto (tgt := 10) hx hb dJ9_min_7cf53_6 (by decide) ?_
    exact hE hw (Option.some.inj h) rfl dJ9_min_7cf53_10
set_option maxHeartbeats 4000000 in
set_option maxRecDepth 100000 in
theorem c_X2_keep (l : Launch) (K : vK) (ad : Nat → Nat) (hI : adInj 30 ad) (σ : vSt) {σ' : vSt} (h : f_X2_keep σ = some σ') : MCv l yX2_keep (wsY yX2_keep cX2_keep 6 none) (rmF 2 22) K 30 ad (cC K ad) [.ref (ad 20), .ref (ad 0), .ref (ad 6), .ref (ad 9)] σ σ' := by
  refine MCv_of (own := RX2) (plainFor_of_name (by decide)) hI rfl (Nat.le_of_ble_eq_true rfl) ?_
  intro p e s m args below meth c A Q hx_E hE H locs ls hw hl
  have hx := hx_E.1; have hb := hx_E.2.1; have hown := hx_E.2.2.2.1; have hts := hx_E.2.2.2.2.1
  replace hl : lv_has ls 6 [(0, .ref (ad 20)), (1, .ref (ad 0)), (2, .ref (ad 6)), (3, .ref (ad 9))] := hl
  unfold f_X2_keep at h
  refine lv_aload_n hx hb dX2_keep_0 rfl (lv_at hl 0 rfl) ?_
  refine gC_20_7 hx_E hw fl_X2_31 dX2_keep_1 ?_
  refine lv_bipush (v := 8) hx hb dX2_keep_4 (by decide) ?_
  obtain ⟨v1, k2, h⟩ := it_b h
  refine kS_i (As := [.int (gI σ 20 7), .int (8 : Int32)]) (rest := []) hx_E hw (c_J9_floorMod_7cf53 l K (gI σ 20 7) (8 : Int32) k2) mi_J9_floorMod_7cf53 sm_J9_floorMod_7cf53 ml_X2_35 rfl ⟨⟨Nat.le_of_ble_eq_true rfl, Nat.le_of_ble_eq_true rfl⟩, rfl, rfl⟩ ⟨Nat.zero_le _, Nat.zero_le _⟩ hl.1 rfl (Nat.le_of_ble_eq_true rfl) dX2_keep_6 (fun H locs hw => ?_)
  refine lv_istore (lv' := [(4, .int v1), (0, .ref (ad 20)), (1, .ref (ad 0)), (2, .ref (ad 6)), (3, .ref (ad 9))]) hx hb dX2_keep_9 hl (by decide) rfl (fun ls hl => ?_)
  refine lv_aload_n hx hb dX2_keep_11 rfl (lv_at hl 1 rfl) ?_
  refine gC_20_0 hx_E hw fl_X2_9 dX2_keep_12 ?_
  refine lv_iload hx hb dX2_keep_15 (lv_at hl 0 rfl) ?_
  refine lv_aload_n hx hb dX2_keep_17 rfl (lv_at hl 2 rfl) ?_
  refine gC_0_5 hx_E hw (by decide) fl_X2_41 dX2_keep_18 ?_
  obtain ⟨g3, h⟩ := it_g h
  refine sC_21 hx_E hw g3 dX2_keep_21 (fun H locs hw => ?_)
  refine lv_aload_n hx hb dX2_keep_22 rfl (lv_at hl 1 rfl) ?_
  refine gC_20_1 hx_E hw fl_X2_15 dX2_keep_23 ?_
  refine lv_iload hx hb dX2_keep_26 (lv_at hl 0 rfl) ?_
  refine lv_aload_n hx hb dX2_keep_28 rfl (lv_at hl 2 rfl) ?_
  refine gC_0_6 hx_E hw (by decide) fl_X2_46 dX2_keep_29 ?_
  obtain ⟨g4, h⟩ := it_g h
  refine sC_22 hx_E hw g4 dX2_keep_32 (fun H locs hw => ?_)
  refine lv_aload_n hx hb dX2_keep_33 rfl (lv_at hl 1 rfl) ?_
  refine gC_20_2 hx_E hw fl_X2_18 dX2_keep_34 ?_
  refine lv_iload hx hb dX2_keep_37 (lv_at hl 0 rfl) ?_
  refine lv_aload_n hx hb dX2_keep_39 rfl (lv_at hl 3 rfl) ?_
  refine gC_B_2 hx_E hw isB_6 fl_X2_49 dX2_keep_40 ?_
  obtain ⟨g5, h⟩ := it_g h
  refine sC_23 hx_E hw g5 dX2_keep_43 (fun H locs hw => ?_)
  refine lv_aload_n hx hb dX2_keep_44 rfl (lv_at hl 1 rfl) ?_
  refine gC_20_3 hx_E hw fl_X2_22 dX2_keep_45 ?_
  refine lv_iload hx hb dX2_keep_48 (lv_at hl 0 rfl) ?_
  refine lv_aload_n hx hb dX2_keep_50 rfl (lv_at hl 3 rfl) ?_
  refine gC_B_3 hx_E hw isB_6 fl_X2_54 dX2_keep_51 ?_
  obtain ⟨g6, h⟩ := it_g h
  refine sC_24 hx_E hw g6 dX2_keep_54 (fun H locs hw => ?_)
  refine lv_iconst (v := 0) hx hb dX2_keep_55 (by decide) ?_
  refine lv_istore (lv' := [(5, .int (0 : Int32)), (4, .int v1), (0, .ref (ad 20)), (1, .ref (ad 0)), (2, .ref (ad 6)), (3, .ref (ad 9))]) hx hb dX2_keep_56 hl (by decide) rfl (fun ls hl => ?_)
  obtain ⟨σ7, e_σ7, h⟩ := it_b h
  replace hw := PW_cast (Option.some.inj e_σ7) hw
  obtain ⟨φ13, h9, h_φ13⟩ := it_b h
  have hJ12 : ∀ (σ10 : vSt), σ10 = φ13 → ∀ (H : Heap) (locs : List Loc) (ls : Array Slot), PW K 30 ad (cC K ad) A s.heap σ10 H locs → lv_has ls 6 [(0, .ref (ad 20)), (3, .ref (ad 9)), (4, .int v1)] → W p l e (rmF 2 22) s m args below meth c H locs 0 0 Q (F0 m 91 ls []) := by
    intro σ10 e9 H locs ls hw hl
    subst e9
    replace h := h_φ13
    refine lv_iconst (v := 0) hx hb dX2_keep_91 (by decide) ?_
    refine lv_istore (lv' := [(5, .int (0 : Int32)), (0, .ref (ad 20)), (3, .ref (ad 9)), (4, .int v1)]) hx hb dX2_keep_92 hl (by decide) rfl (fun ls hl => ?_)
    obtain ⟨φ22, h9, h_φ22⟩ := it_b h
    have hJ21 : ∀ (σ19 : vSt), σ19 = φ22 → ∀ (H : Heap) (locs : List Loc) (ls : Array Slot), PW K 30 ad (cC K ad) A s.heap σ19 H locs → lv_has ls 6 [(0, .ref (ad 20)), (4, .int v1)] → W p l e (rmF 2 22) s m args below meth c H locs 0 0 Q (F0 m 131 ls []) := by
      intro σ19 e9 H locs ls hw hl
      subst e9
      replace h := h_φ22
      refine lv_aload_n hx hb dX2_keep_131 rfl (lv_at hl 0 rfl) ?_
      refine lv_iload hx hb dX2_keep_132 (lv_at hl 1 rfl) ?_
      refine lv_iconst (v := 1) hx hb dX2_keep_134 (by decide) ?_
      refine lv_iadd hx hb dX2_keep_135 ?_
      refine lv_bipush (v := 8) hx hb dX2_keep_136 (by decide) ?_
      obtain ⟨v27, k28, h⟩ := it_b h
      refine kS_i (As := [.int (v1 + (1 : Int32)), .int (8 : Int32)]) (rest := [.ref (ad 20)]) hx_E hw (c_J9_floorMod_7cf53 l K (v1 + (1 : Int32)) (8 : Int32) k28) mi_J9_floorMod_7cf53 sm_J9_floorMod_7cf53 ml_X2_35 rfl ⟨⟨Nat.le_of_ble_eq_true rfl, Nat.le_of_ble_eq_true rfl⟩, rfl, rfl⟩ ⟨Nat.zero_le _, Nat.zero_le _⟩ hl.1 rfl (Nat.le_of_ble_eq_true rfl) dX2_keep_138 (fun H locs hw => ?_)
      refine pC_20_7 hx_E hw fl_X2_31 dX2_keep_141 (fun H locs hw => ?_)
      refine lv_aload_n hx hb dX2_keep_144 rfl (lv_at hl 0 rfl) ?_
      refine lv_aload_n hx hb dX2_keep_145 rfl (lv_at hl 0 rfl) ?_
      refine gC_20_6 hx_E hw fl_X2_57 dX2_keep_146 ?_
      refine lv_iconst (v := 1) hx hb dX2_keep_149 (by decide) ?_
      refine lv_iadd hx hb dX2_keep_150 ?_
      refine lv_bipush (v := 8) hx hb dX2_keep_151 (by decide) ?_
      obtain ⟨v29, k30, h⟩ := it_b h
      refine kS_i (As := [.int ((gI (sI σ19 20 7 v27) 20 6) + (1 : Int32)), .int (8 : Int32)]) (rest := [.ref (ad 20)]) hx_E hw (c_J9_min_7cf53 l K ((gI (sI σ19 20 7 v27) 20 6) + (1 : Int32)) (8 : Int32) k30) mi_J9_min_7cf53 sm_J9_min_7cf53 ml_X2_60 rfl ⟨⟨Nat.le_of_ble_eq_true rfl, Nat.le_of_ble_eq_true rfl⟩, rfl, rfl⟩ ⟨Nat.zero_le _, Nat.zero_le _⟩ hl.1 rfl (Nat.le_of_ble_eq_true rfl) dX2_keep_153 (fun H locs hw => ?_)
      refine pC_20_6 hx_E hw fl_X2_57 dX2_keep_156 (fun H locs hw => ?_)
      exact hE hw (Option.some.inj h) dX2_keep_159
    have hL20 : ∀ (n9 : Nat) (v17 : Int32) (σ18 : vSt), ∀ (H : Heap) (locs : List Loc) (ls : Array Slot), f_X2_keep_94 v1 n9 v17 σ18 = some φ22 → PW K 30 ad (cC K ad) A s.heap σ18 H locs → lv_has ls 6 [(0, .ref (ad 20)), (3, .ref (ad 9)), (4, .int v1), (5, .int v17)] → W p l e (rmF 2 22) s m args below meth c H locs 0 0 Q (F0 m 94 ls []) := by
      intro n9
      induction n9 with
      | zero => intro v17 σ18 H locs ls h hw hl; rw [f_X2_keep_94.eq_1] at h; exact it_n h
      | succ n9 ih =>
        intro v17 σ18 H locs ls h hw hl
        rw [f_X2_keep_94.eq_2] at h
        refine lv_iload hx hb dX2_keep_94 (lv_at hl 3 rfl) ?_
        refine lv_bipush (v := 8) hx hb dX2_keep_96 (by decide) ?_
        refine lv_icmp_ge (tgt := 131) hx hb dX2_keep_98 (by decide) (fun c23 => ?_) (fun c23 => ?_)
        · replace h := it_t c23 h
          have e9 := Option.some.inj h
          subst e9
          exact hJ21 _ rfl  H locs ls hw (lv_sub hl [0, 2] rfl)
        · replace h := it_f c23 h
          refine lv_iload hx hb dX2_keep_101 (lv_at hl 3 rfl) ?_
          refine lv_aload_n hx hb dX2_keep_103 rfl (lv_at hl 1 rfl) ?_
          refine alC_9 hx_E hw dX2_keep_104 ?_
          refine lv_icmp_ge (tgt := 131) hx hb dX2_keep_105 (by decide) (fun c24 => ?_) (fun c24 => ?_)
          · replace h := it_t c24 h
            have e9 := Option.some.inj h
            subst e9
            exact hJ21 _ rfl  H locs ls hw (lv_sub hl [0, 2] rfl)
          · replace h := it_f c24 h
            refine lv_aload_n hx hb dX2_keep_108 rfl (lv_at hl 0 rfl) ?_
            refine gC_20_5 hx_E hw fl_X2_28 dX2_keep_109 ?_
            refine lv_iload hx hb dX2_keep_112 (lv_at hl 2 rfl) ?_
            refine lv_bipush (v := 8) hx hb dX2_keep_114 (by decide) ?_
            refine lv_imul hx hb dX2_keep_116 ?_
            refine lv_iload hx hb dX2_keep_117 (lv_at hl 3 rfl) ?_
            refine lv_iadd hx hb dX2_keep_119 ?_
            refine lv_aload_n hx hb dX2_keep_120 rfl (lv_at hl 1 rfl) ?_
            refine lv_iload hx hb dX2_keep_121 (lv_at hl 3 rfl) ?_
            obtain ⟨g25, h⟩ := it_g h
            refine aC_9 hx_E hw g25 dX2_keep_123 ?_
            obtain ⟨g26, h⟩ := it_g h
            refine sC_26 hx_E hw g26 dX2_keep_124 (fun H locs hw => ?_)
            refine lv_iinc (v := (v17 + 1)) (lv' := [(5, .int (v17 + 1)), (0, .ref (ad 20)), (3, .ref (ad 9)), (4, .int v1)]) hx hb dX2_keep_125 hl (k := 3) rfl rfl (by decide) rfl (fun ls hl => ?_)
            refine lv_goto (tgt := 94) hx hb dX2_keep_128 (by decide) ?_
            exact ih _ _   H locs ls h hw (lv_sub hl [1, 2, 3, 0] rfl)
    exact hL20 600 _ _   H locs ls h9 hw (lv_sub hl [1, 2, 3, 0] rfl)
  have hL11 : ∀ (n9 : Nat) (v8 : Int32) (σ9 : vSt), ∀ (H : Heap) (locs : List Loc) (ls : Array Slot), f_X2_keep_58 v1 n9 v8 σ9 = some φ13 → PW K 30 ad (cC K ad) A s.heap σ9 H locs → lv_has ls 6 [(0, .ref (ad 20)), (1, .ref (ad 0)), (3, .ref (ad 9)), (4, .int v1), (5, .int v8)] → W p l e (rmF 2 22) s m args below meth c H locs 0 0 Q (F0 m 58 ls []) := by
    intro n9
    induction n9 with
    | zero => intro v8 σ9 H locs ls h hw hl; rw [f_X2_keep_58.eq_1] at h; exact it_n h
    | succ n9 ih =>
      intro v8 σ9 H locs ls h hw hl
      rw [f_X2_keep_58.eq_2] at h
      refine lv_iload hx hb dX2_keep_58 (lv_at hl 4 rfl) ?_
      refine lv_bipush (v := 16) hx hb dX2_keep_60 (by decide) ?_
      refine lv_icmp_ge (tgt := 91) hx hb dX2_keep_62 (by decide) (fun c14 => ?_) (fun c14 => ?_)
      · replace h := it_t c14 h
        have e9 := Option.some.inj h
        subst e9
        exact hJ12 _ rfl  H locs ls hw (lv_sub hl [0, 2, 3] rfl)
      · replace h := it_f c14 h
        refine lv_aload_n hx hb dX2_keep_65 rfl (lv_at hl 0 rfl) ?_
        refine gC_20_4 hx_E hw fl_X2_25 dX2_keep_66 ?_
        refine lv_iload hx hb dX2_keep_69 (lv_at hl 3 rfl) ?_
        refine lv_bipush (v := 16) hx hb dX2_keep_71 (by decide) ?_
        refine lv_imul hx hb dX2_keep_73 ?_
        refine lv_iload hx hb dX2_keep_74 (lv_at hl 4 rfl) ?_
        refine lv_iadd hx hb dX2_keep_76 ?_
        refine lv_aload_n hx hb dX2_keep_77 rfl (lv_at hl 1 rfl) ?_
        refine gC_0_0 hx_E hw (by decide) fl_X2_56 dX2_keep_78 ?_
        refine lv_iload hx hb dX2_keep_81 (lv_at hl 4 rfl) ?_
        obtain ⟨g15, h⟩ := it_g h
        refine aC_1 hx_E hw (by decide) g15 dX2_keep_83 ?_
        obtain ⟨g16, h⟩ := it_g h
        refine sC_25 hx_E hw g16 dX2_keep_84 (fun H locs hw => ?_)
        refine lv_iinc (v := (v8 + 1)) (lv' := [(5, .int (v8 + 1)), (0, .ref (ad 20)), (1, .ref (ad 0)), (3, .ref (ad 9)), (4, .int v1)]) hx hb dX2_keep_85 hl (k := 4) rfl rfl (by decide) rfl (fun ls hl => ?_)
        refine lv_goto (tgt := 58) hx hb dX2_keep_88 (by decide) ?_
        exact ih _ _   H locs ls h hw (lv_sub hl [1, 2, 3, 4, 0] rfl)
  exact hL11 600 _ _   H locs ls h9 hw (lv_sub hl [2, 3, 5, 1, 0] rfl)
set_option maxHeartbeats 4000000 in
set_option maxRecDepth 100000 in
theorem c_J9_max_7cf53 (l : Launch) (K : vK) (l0 : Int32) (l1 : Int32) {r : Int32} (h : f_J9_max_7cf53 l0 l1 = some r) : MCi l yJ9_max_7cf53 (wsY yJ9_max_7cf53 cJ9_max_7cf53 2 (some .int)) (rmF 1 0) K 0 ad_0 (cf_0) [.int l0, .int l1] st_0 r st_0 := by
  refine MCi_of (own := RJ9) pf_J9_max_7cf53 adInj_0 rfl (Nat.le_of_ble_eq_true rfl) ?_
  intro p e s m args below meth c A Q hx_E hE H locs ls hw hl
  have hx := hx_E.1; have hb := hx_E.2.1; have hown := hx_E.2.2.2.1; have hts := hx_E.2.2.2.2.1
  replace hl : lv_has ls 2 [(0, .int l0), (1, .int l1)] := hl
  unfold f_J9_max_7cf53 at h
  refine lv_iload_n hx hb dJ9_max_7cf53_0 rfl (lv_at hl 0 rfl) ?_
  refine lv_iload_n hx hb dJ9_max_7cf53_1 rfl (lv_at hl 1 rfl) ?_
  refine lv_icmp_lt (tgt := 9) hx hb dJ9_max_7cf53_2 (by decide) (fun c1 => ?_) (fun c1 => ?_)
  · replace h := it_t c1 h
    refine lv_iload_n hx hb dJ9_max_7cf53_9 rfl (lv_at hl 1 rfl) ?_
    exact hE hw (Option.some.inj h) rfl dJ9_max_7cf53_10
  · replace h := it_f c1 h
    refine lv_iload_n hx hb dJ9_max_7cf53_5 rfl (lv_at hl 0 rfl) ?_
    refine lv_goto (tgt := 10) hx hb dJ9_max_7cf53_6 (by decide) ?_
    exact hE hw (Option.some.inj h) rfl dJ9_max_7cf53_10
set_option maxHeartbeats 4000000 in
set_option maxRecDepth 100000 in
theorem c_X1_cellAt (l : Launch) (K : vK) (N : Nat) (hN : 6 ≤ N) (ad : Nat → Nat) (hI : adInj N ad) (l1 : Int32) (l2 : Int32) (σ : vSt) {r : Int32} (h : f_X1_cellAt l1 l2 σ = some r) : MCi l yX1_cellAt (wsY yX1_cellAt cX1_cellAt 4 (some .int)) (rmF 1 0) K N ad (cC K ad) [.ref (ad 0), .int l1, .int l2] σ r σ := by
  refine MCi_of (own := RX1) (plainFor_of_name (by decide)) hI rfl (Nat.le_of_ble_eq_true rfl) ?_
  intro p e s m args below meth c A Q hx_E hE H locs ls hw hl
  have hx := hx_E.1; have hb := hx_E.2.1; have hown := hx_E.2.2.2.1; have hts := hx_E.2.2.2.2.1
  replace hl : lv_has ls 4 [(0, .ref (ad 0)), (1, .int l1), (2, .int l2)] := hl
  unfold f_X1_cellAt at h
  refine lv_iload_n hx hb dX1_cellAt_0 rfl (lv_at hl 1 rfl) ?_
  obtain ⟨φ4, h9, h_φ4⟩ := it_b h
  have hJ3 : ∀ (v2 : Int32), v2 = φ4 → (v2 = 0 ∨ v2 = 1) → ∀ (H : Heap) (locs : List Loc) (ls : Array Slot), PW K N ad (cC K ad) A s.heap σ H locs → lv_has ls 4 [(0, .ref (ad 0)), (1, .int l1), (2, .int l2)] → W p l e (rmF 1 0) s m args below meth c H locs 0 0 Q (F0 m 29 ls [.int v2]) := by
    intro v2 e9 z_v2 H locs ls hw hl
    subst e9
    replace h := h_φ4
    refine lv_istore_n (lv' := [(3, .int v2), (0, .ref (ad 0)), (1, .int l1), (2, .int l2)]) hx hb dX1_cellAt_29 rfl hl (by decide) rfl (fun ls hl => ?_)
    refine lv_iload_n hx hb dX1_cellAt_30 rfl (lv_at hl 0 rfl) ?_
    refine lv_if_eq (tgt := 45) hx hb dX1_cellAt_31 (by decide) (fun c8 => ?_) (fun c8 => ?_)
    · replace h := it_t c8 h
      refine lv_iconst (v := -1) hx hb dX1_cellAt_45 (by decide) ?_
      exact hE hw (Option.some.inj h) rfl dX1_cellAt_46
    · replace h := it_f c8 h
      refine lv_iload_n hx hb dX1_cellAt_34 rfl (lv_at hl 2 rfl) ?_
      refine lv_aload_n hx hb dX1_cellAt_35 rfl (lv_at hl 1 rfl) ?_
      refine gC_0_5 hx_E hw hN fl_X1_47 dX1_cellAt_36 ?_
      refine lv_imul hx hb dX1_cellAt_39 ?_
      refine lv_iload_n hx hb dX1_cellAt_40 rfl (lv_at hl 3 rfl) ?_
      refine lv_iadd hx hb dX1_cellAt_41 ?_
      refine lv_goto (tgt := 46) hx hb dX1_cellAt_42 (by decide) ?_
      exact hE hw (Option.some.inj h) rfl dX1_cellAt_46
  replace h := h9
  refine lv_if_lt (tgt := 28) hx hb dX1_cellAt_1 (by decide) (fun c1 => ?_) (fun c1 => ?_)
  · replace h := it_t c1 h
    refine lv_iconst (v := 0) hx hb dX1_cellAt_28 (by decide) ?_
    have e9 := Option.some.inj h
    subst e9
    exact hJ3 _ rfl (Or.inl rfl) H locs ls hw (lv_sub hl [0, 1, 2] rfl)
  · replace h := it_f c1 h
    refine lv_iload_n hx hb dX1_cellAt_4 rfl (lv_at hl 1 rfl) ?_
    refine lv_aload_n hx hb dX1_cellAt_5 rfl (lv_at hl 0 rfl) ?_
    refine gC_0_6 hx_E hw hN fl_X1_50 dX1_cellAt_6 ?_
    refine lv_icmp_ge (tgt := 28) hx hb dX1_cellAt_9 (by decide) (fun c5 => ?_) (fun c5 => ?_)
    · replace h := it_t c5 h
      refine lv_iconst (v := 0) hx hb dX1_cellAt_28 (by decide) ?_
      have e9 := Option.some.inj h
      subst e9
      exact hJ3 _ rfl (Or.inl rfl) H locs ls hw (lv_sub hl [0, 1, 2] rfl)
    · replace h := it_f c5 h
      refine lv_iload_n hx hb dX1_cellAt_12 rfl (lv_at hl 2 rfl) ?_
      refine lv_if_lt (tgt := 28) hx hb dX1_cellAt_13 (by decide) (fun c6 => ?_) (fun c6 => ?_)
      · replace h := it_t c6 h
        refine lv_iconst (v := 0) hx hb dX1_cellAt_28 (by decide) ?_
        have e9 := Option.some.inj h
        subst e9
        exact hJ3 _ rfl (Or.inl rfl) H locs ls hw (lv_sub hl [0, 1, 2] rfl)
      · replace h := it_f c6 h
        refine lv_iload_n hx hb dX1_cellAt_16 rfl (lv_at hl 2 rfl) ?_
        refine lv_aload_n hx hb dX1_cellAt_17 rfl (lv_at hl 0 rfl) ?_
        refine gC_0_5 hx_E hw hN fl_X1_47 dX1_cellAt_18 ?_
        refine lv_icmp_ge (tgt := 28) hx hb dX1_cellAt_21 (by decide) (fun c7 => ?_) (fun c7 => ?_)
        · replace h := it_t c7 h
          refine lv_iconst (v := 0) hx hb dX1_cellAt_28 (by decide) ?_
          have e9 := Option.some.inj h
          subst e9
          exact hJ3 _ rfl (Or.inl rfl) H locs ls hw (lv_sub hl [0, 1, 2] rfl)
        · replace h := it_f c7 h
          refine lv_iconst (v := 1) hx hb dX1_cellAt_24 (by decide) ?_
          refine lv_goto (tgt := 29) hx hb dX1_cellAt_25 (by decide) ?_
          have e9 := Option.some.inj h
          subst e9
          exact hJ3 _ rfl (Or.inr rfl) H locs ls hw (lv_sub hl [0, 1, 2] rfl)
set_option maxHeartbeats 4000000 in
set_option maxRecDepth 100000 in
theorem c_X1_hasEdge (l : Launch) (K : vK) (N : Nat) (hN : 6 ≤ N) (ad : Nat → Nat) (hI : adInj N ad) (l1 : Int32) (σ : vSt) {r : Int32} (h : f_X1_hasEdge l1 σ = some r) : MCz l yX1_hasEdge (wsY yX1_hasEdge cX1_hasEdge 2 (some .boolean)) (rmF 1 0) K N ad (cC K ad) [.ref (ad 0), .int l1] σ r σ := by
  refine MCz_of (own := RX1) (plainFor_of_name (by decide)) hI rfl (Nat.le_of_ble_eq_true rfl) ?_
  intro p e s m args below meth c A Q hx_E hE H locs ls hw hl
  have hx := hx_E.1; have hb := hx_E.2.1; have hown := hx_E.2.2.2.1; have hts := hx_E.2.2.2.2.1
  replace hl : lv_has ls 2 [(0, .ref (ad 0)), (1, .int l1)] := hl
  unfold f_X1_hasEdge at h
  refine lv_iload_n hx hb dX1_hasEdge_0 rfl (lv_at hl 1 rfl) ?_
  refine lv_if_lt (tgt := 16) hx hb dX1_hasEdge_1 (by decide) (fun c1 => ?_) (fun c1 => ?_)
  · replace h := it_t c1 h
    refine lv_iconst (v := 0) hx hb dX1_hasEdge_16 (by decide) ?_
    exact hE hw (Option.some.inj h) rfl (Or.inl rfl) dX1_hasEdge_17
  · replace h := it_f c1 h
    refine lv_iload_n hx hb dX1_hasEdge_4 rfl (lv_at hl 1 rfl) ?_
    refine lv_aload_n hx hb dX1_hasEdge_5 rfl (lv_at hl 0 rfl) ?_
    refine gC_0_9 hx_E hw hN fl_X1_35 dX1_hasEdge_6 ?_
    refine lv_icmp_ge (tgt := 16) hx hb dX1_hasEdge_9 (by decide) (fun c2 => ?_) (fun c2 => ?_)
    · replace h := it_t c2 h
      refine lv_iconst (v := 0) hx hb dX1_hasEdge_16 (by decide) ?_
      exact hE hw (Option.some.inj h) rfl (Or.inl rfl) dX1_hasEdge_17
    · replace h := it_f c2 h
      refine lv_iconst (v := 1) hx hb dX1_hasEdge_12 (by decide) ?_
      refine lv_goto (tgt := 17) hx hb dX1_hasEdge_13 (by decide) ?_
      exact hE hw (Option.some.inj h) rfl (Or.inr rfl) dX1_hasEdge_17
set_option maxHeartbeats 4000000 in
set_option maxRecDepth 100000 in
theorem c_X1_hasCorner (l : Launch) (K : vK) (N : Nat) (hN : 6 ≤ N) (ad : Nat → Nat) (hI : adInj N ad) (l1 : Int32) (σ : vSt) {r : Int32} (h : f_X1_hasCorner l1 σ = some r) : MCz l yX1_hasCorner (wsY yX1_hasCorner cX1_hasCorner 2 (some .boolean)) (rmF 1 0) K N ad (cC K ad) [.ref (ad 0), .int l1] σ r σ := by
  refine MCz_of (own := RX1) (plainFor_of_name (by decide)) hI rfl (Nat.le_of_ble_eq_true rfl) ?_
  intro p e s m args below meth c A Q hx_E hE H locs ls hw hl
  have hx := hx_E.1; have hb := hx_E.2.1; have hown := hx_E.2.2.2.1; have hts := hx_E.2.2.2.2.1
  replace hl : lv_has ls 2 [(0, .ref (ad 0)), (1, .int l1)] := hl
  unfold f_X1_hasCorner at h
  refine lv_iload_n hx hb dX1_hasCorner_0 rfl (lv_at hl 1 rfl) ?_
  refine lv_if_lt (tgt := 16) hx hb dX1_hasCorner_1 (by decide) (fun c1 => ?_) (fun c1 => ?_)
  · replace h := it_t c1 h
    refine lv_iconst (v := 0) hx hb dX1_hasCorner_16 (by decide) ?_
    exact hE hw (Option.some.inj h) rfl (Or.inl rfl) dX1_hasCorner_17
  · replace h := it_f c1 h
    refine lv_iload_n hx hb dX1_hasCorner_4 rfl (lv_at hl 1 rfl) ?_
    refine lv_aload_n hx hb dX1_hasCorner_5 rfl (lv_at hl 0 rfl) ?_
    refine gC_0_8 hx_E hw hN fl_X1_32 dX1_hasCorner_6 ?_
    refine lv_icmp_ge (tgt := 16) hx hb dX1_hasCorner_9 (by decide) (fun c2 => ?_) (fun c2 => ?_)
    · replace h := it_t c2 h
      refine lv_iconst (v := 0) hx hb dX1_hasCorner_16 (by decide) ?_
      exact hE hw (Option.some.inj h) rfl (Or.inl rfl) dX1_hasCorner_17
    · replace h := it_f c2 h
      refine lv_iconst (v := 1) hx hb dX1_hasCorner_12 (by decide) ?_
      refine lv_goto (tgt := 17) hx hb dX1_hasCorner_13 (by decide) ?_
      exact hE hw (Option.some.inj h) rfl (Or.inr rfl) dX1_hasCorner_17
set_option maxHeartbeats 4000000 in
set_option maxRecDepth 100000 in
theorem c_X1_hasCell (l : Launch) (K : vK) (N : Nat) (hN : 6 ≤ N) (ad : Nat → Nat) (hI : adInj N ad) (l1 : Int32) (σ : vSt) {r : Int32} (h : f_X1_hasCell l1 σ = some r) : MCz l yX1_hasCell (wsY yX1_hasCell cX1_hasCell 2 (some .boolean)) (rmF 1 0) K N ad (cC K ad) [.ref (ad 0), .int l1] σ r σ := by
  refine MCz_of (own := RX1) (plainFor_of_name (by decide)) hI rfl (Nat.le_of_ble_eq_true rfl) ?_
  intro p e s m args below meth c A Q hx_E hE H locs ls hw hl
  have hx := hx_E.1; have hb := hx_E.2.1; have hown := hx_E.2.2.2.1; have hts := hx_E.2.2.2.2.1
  replace hl : lv_has ls 2 [(0, .ref (ad 0)), (1, .int l1)] := hl
  unfold f_X1_hasCell at h
  refine lv_iload_n hx hb dX1_hasCell_0 rfl (lv_at hl 1 rfl) ?_
  refine lv_if_lt (tgt := 16) hx hb dX1_hasCell_1 (by decide) (fun c1 => ?_) (fun c1 => ?_)
  · replace h := it_t c1 h
    refine lv_iconst (v := 0) hx hb dX1_hasCell_16 (by decide) ?_
    exact hE hw (Option.some.inj h) rfl (Or.inl rfl) dX1_hasCell_17
  · replace h := it_f c1 h
    refine lv_iload_n hx hb dX1_hasCell_4 rfl (lv_at hl 1 rfl) ?_
    refine lv_aload_n hx hb dX1_hasCell_5 rfl (lv_at hl 0 rfl) ?_
    refine gC_0_7 hx_E hw hN fl_X1_28 dX1_hasCell_6 ?_
    refine lv_icmp_ge (tgt := 16) hx hb dX1_hasCell_9 (by decide) (fun c2 => ?_) (fun c2 => ?_)
    · replace h := it_t c2 h
      refine lv_iconst (v := 0) hx hb dX1_hasCell_16 (by decide) ?_
      exact hE hw (Option.some.inj h) rfl (Or.inl rfl) dX1_hasCell_17
    · replace h := it_f c2 h
      refine lv_iconst (v := 1) hx hb dX1_hasCell_12 (by decide) ?_
      refine lv_goto (tgt := 17) hx hb dX1_hasCell_13 (by decide) ?_
      exact hE hw (Option.some.inj h) rfl (Or.inr rfl) dX1_hasCell_17
set_option maxHeartbeats 4000000 in
set_option maxRecDepth 100000 in
theorem c_X1_layEdge (l : Launch) (K : vK) (N : Nat) (hN : 6 ≤ N) (ad : Nat → Nat) (hI : adInj N ad) (l1 : Int32) (l2 : Int32) (l3 : Int32) (l4 : Int32) (l5 : Int32) (σ : vSt) {σ' : vSt} (h : f_X1_layEdge l1 l2 l3 l4 l5 σ = some σ') : MCv l yX1_layEdge (wsY yX1_layEdge cX1_layEdge 8 none) (rmF 2 21) K N ad (cC K ad) [.ref (ad 0), .int l1, .int l2, .int l3, .int l4, .int l5] σ σ' := by
  refine MCv_of (own := RX1) (plainFor_of_name (by decide)) hI rfl (Nat.le_of_ble_eq_true rfl) ?_
  intro p e s m args below meth c A Q hx_E hE H locs ls hw hl
  have hx := hx_E.1; have hb := hx_E.2.1; have hown := hx_E.2.2.2.1; have hts := hx_E.2.2.2.2.1
  replace hl : lv_has ls 8 [(0, .ref (ad 0)), (1, .int l1), (2, .int l2), (3, .int l3), (4, .int l4), (5, .int l5)] := hl
  unfold f_X1_layEdge at h
  refine lv_aload_n hx hb dX1_layEdge_0 rfl (lv_at hl 0 rfl) ?_
  refine lv_iload_n hx hb dX1_layEdge_1 rfl (lv_at hl 1 rfl) ?_
  obtain ⟨v1, k2, h⟩ := it_b h
  refine kV_z (As := [.int l1]) (rest := []) (q := 0) hx_E hw (c_X1_hasEdge l K N hN ad hI  l1 σ k2) mi_X1_hasEdge mv_X1_hasEdge ml_X1_64 (Nat.lt_of_lt_of_le (by decide) hN) rfl rfl rfl ⟨⟨Nat.le_of_ble_eq_true rfl, Nat.le_of_ble_eq_true rfl⟩, rfl, rfl⟩ ⟨Nat.zero_le _, Nat.zero_le _⟩ hl.1 rfl (Nat.le_of_ble_eq_true rfl) dX1_layEdge_2 (fun z3 H locs hw => ?_)
  refine lv_if_eq (tgt := 24) hx hb dX1_layEdge_5 (by decide) (fun c4 => ?_) (fun c4 => ?_)
  · replace h := it_t c4 h
    exact hE hw (Option.some.inj h) dX1_layEdge_24
  · replace h := it_f c4 h
    refine lv_aload_n hx hb dX1_layEdge_8 rfl (lv_at hl 0 rfl) ?_
    refine lv_iload_n hx hb dX1_layEdge_9 rfl (lv_at hl 2 rfl) ?_
    obtain ⟨v5, k6, h⟩ := it_b h
    refine kV_z (As := [.int l2]) (rest := []) (q := 0) hx_E hw (c_X1_hasCorner l K N hN ad hI  l2 σ k6) mi_X1_hasCorner mv_X1_hasCorner ml_X1_68 (Nat.lt_of_lt_of_le (by decide) hN) rfl rfl rfl ⟨⟨Nat.le_of_ble_eq_true rfl, Nat.le_of_ble_eq_true rfl⟩, rfl, rfl⟩ ⟨Nat.zero_le _, Nat.zero_le _⟩ hl.1 rfl (Nat.le_of_ble_eq_true rfl) dX1_layEdge_10 (fun z7 H locs hw => ?_)
    refine lv_if_eq (tgt := 24) hx hb dX1_layEdge_13 (by decide) (fun c8 => ?_) (fun c8 => ?_)
    · replace h := it_t c8 h
      exact hE hw (Option.some.inj h) dX1_layEdge_24
    · replace h := it_f c8 h
      refine lv_aload_n hx hb dX1_layEdge_16 rfl (lv_at hl 0 rfl) ?_
      refine lv_iload_n hx hb dX1_layEdge_17 rfl (lv_at hl 3 rfl) ?_
      obtain ⟨v9, k10, h⟩ := it_b h
      refine kV_z (As := [.int l3]) (rest := []) (q := 0) hx_E hw (c_X1_hasCorner l K N hN ad hI  l3 σ k10) mi_X1_hasCorner mv_X1_hasCorner ml_X1_68 (Nat.lt_of_lt_of_le (by decide) hN) rfl rfl rfl ⟨⟨Nat.le_of_ble_eq_true rfl, Nat.le_of_ble_eq_true rfl⟩, rfl, rfl⟩ ⟨Nat.zero_le _, Nat.zero_le _⟩ hl.1 rfl (Nat.le_of_ble_eq_true rfl) dX1_layEdge_18 (fun z11 H locs hw => ?_)
      refine lv_if_ne (tgt := 25) hx hb dX1_layEdge_21 (by decide) (fun c12 => ?_) (fun c12 => ?_)
      · replace h := it_f c12 h
        refine lv_lconst (v := 1) hx hb dX1_layEdge_25 (by decide) ?_
        refine lv_iload_n hx hb dX1_layEdge_26 rfl (lv_at hl 1 rfl) ?_
        refine lv_lshl (v := (o_lshl (1 : Int64) l1)) hx hb dX1_layEdge_27 rfl ?_
        obtain ⟨v13, e_v13, h⟩ := it_b h
        refine lt_topl (Option.some.inj e_v13) ?_
        refine lv_lstore (lv' := [(6, .long v13), (0, .ref (ad 0)), (1, .int l1), (2, .int l2), (3, .int l3), (4, .int l4), (5, .int l5)]) hx hb dX1_layEdge_28 hl (by decide) rfl (fun ls hl => ?_)
        refine lv_aload_n hx hb dX1_layEdge_30 rfl (lv_at hl 1 rfl) ?_
        refine gC_0_4 hx_E hw hN fl_X1_25 dX1_layEdge_31 ?_
        refine lv_iconst (v := 2) hx hb dX1_layEdge_34 (by decide) ?_
        refine lv_iload_n hx hb dX1_layEdge_35 rfl (lv_at hl 2 rfl) ?_
        refine lv_imul hx hb dX1_layEdge_36 ?_
        refine lv_iload_n hx hb dX1_layEdge_37 rfl (lv_at hl 3 rfl) ?_
        obtain ⟨g14, h⟩ := it_g h
        refine sC_5 hx_E hw hN g14 dX1_layEdge_38 (fun H locs hw => ?_)
        refine lv_aload_n hx hb dX1_layEdge_39 rfl (lv_at hl 1 rfl) ?_
        refine gC_0_4 hx_E hw hN fl_X1_25 dX1_layEdge_40 ?_
        refine lv_iconst (v := 2) hx hb dX1_layEdge_43 (by decide) ?_
        refine lv_iload_n hx hb dX1_layEdge_44 rfl (lv_at hl 2 rfl) ?_
        refine lv_imul hx hb dX1_layEdge_45 ?_
        refine lv_iconst (v := 1) hx hb dX1_layEdge_46 (by decide) ?_
        refine lv_iadd hx hb dX1_layEdge_47 ?_
        refine lv_iload_n hx hb dX1_layEdge_48 rfl (lv_at hl 4 rfl) ?_
        obtain ⟨g15, h⟩ := it_g h
        refine sC_5 hx_E hw hN g15 dX1_layEdge_49 (fun H locs hw => ?_)
        refine lv_aload_n hx hb dX1_layEdge_50 rfl (lv_at hl 1 rfl) ?_
        refine gC_0_2 hx_E hw hN fl_X1_19 dX1_layEdge_51 ?_
        refine lv_iload_n hx hb dX1_layEdge_54 rfl (lv_at hl 3 rfl) ?_
        refine lv_dup2_11 hx hb dX1_layEdge_55 rfl rfl ?_
        obtain ⟨g16, h⟩ := it_g h
        refine aC_3 hx_E hw hN g16 dX1_layEdge_56 ?_
        refine lv_lload hx hb dX1_layEdge_57 (lv_at hl 0 rfl) ?_
        refine lv_lor hx hb dX1_layEdge_59 ?_
        obtain ⟨g17, h⟩ := it_g h
        refine sC_3 hx_E hw hN g17 dX1_layEdge_60 (fun H locs hw => ?_)
        refine lv_aload_n hx hb dX1_layEdge_61 rfl (lv_at hl 1 rfl) ?_
        refine gC_0_2 hx_E hw hN fl_X1_19 dX1_layEdge_62 ?_
        refine lv_iload_n hx hb dX1_layEdge_65 rfl (lv_at hl 4 rfl) ?_
        refine lv_dup2_11 hx hb dX1_layEdge_66 rfl rfl ?_
        obtain ⟨g18, h⟩ := it_g h
        refine aC_3 hx_E hw hN g18 dX1_layEdge_67 ?_
        refine lv_lload hx hb dX1_layEdge_68 (lv_at hl 0 rfl) ?_
        refine lv_lor hx hb dX1_layEdge_70 ?_
        obtain ⟨g19, h⟩ := it_g h
        refine sC_3 hx_E hw hN g19 dX1_layEdge_71 (fun H locs hw => ?_)
        refine lv_aload_n hx hb dX1_layEdge_72 rfl (lv_at hl 1 rfl) ?_
        refine gC_0_3 hx_E hw hN fl_X1_22 dX1_layEdge_73 ?_
        refine lv_iconst (v := 2) hx hb dX1_layEdge_76 (by decide) ?_
        refine lv_iload_n hx hb dX1_layEdge_77 rfl (lv_at hl 2 rfl) ?_
        refine lv_imul hx hb dX1_layEdge_78 ?_
        refine lv_iload hx hb dX1_layEdge_79 (lv_at hl 5 rfl) ?_
        obtain ⟨g20, h⟩ := it_g h
        refine sC_4 hx_E hw hN g20 dX1_layEdge_81 (fun H locs hw => ?_)
        refine lv_aload_n hx hb dX1_layEdge_82 rfl (lv_at hl 1 rfl) ?_
        refine gC_0_3 hx_E hw hN fl_X1_22 dX1_layEdge_83 ?_
        refine lv_iconst (v := 2) hx hb dX1_layEdge_86 (by decide) ?_
        refine lv_iload_n hx hb dX1_layEdge_87 rfl (lv_at hl 2 rfl) ?_
        refine lv_imul hx hb dX1_layEdge_88 ?_
        refine lv_iconst (v := 1) hx hb dX1_layEdge_89 (by decide) ?_
        refine lv_iadd hx hb dX1_layEdge_90 ?_
        refine lv_iload hx hb dX1_layEdge_91 (lv_at hl 6 rfl) ?_
        obtain ⟨g21, h⟩ := it_g h
        refine sC_4 hx_E hw hN g21 dX1_layEdge_93 (fun H locs hw => ?_)
        refine lv_aload_n hx hb dX1_layEdge_94 rfl (lv_at hl 1 rfl) ?_
        refine lv_iload hx hb dX1_layEdge_95 (lv_at hl 5 rfl) ?_
        obtain ⟨v22, k23, h⟩ := it_b h
        refine kV_z (As := [.int l4]) (rest := []) (q := 0) hx_E hw (c_X1_hasCell l K N hN ad hI  l4 (sI (sI (sL (sL (sI (sI σ 5 ((2 : Int32) * l1).toNatClampNeg l2) 5 (((2 : Int32) * l1) + (1 : Int32)).toNatClampNeg l3) 3 l2.toNatClampNeg ((gL (sI (sI σ 5 ((2 : Int32) * l1).toNatClampNeg l2) 5 (((2 : Int32) * l1) + (1 : Int32)).toNatClampNeg l3) 3 l2.toNatClampNeg) ||| v13)) 3 l3.toNatClampNeg ((gL (sL (sI (sI σ 5 ((2 : Int32) * l1).toNatClampNeg l2) 5 (((2 : Int32) * l1) + (1 : Int32)).toNatClampNeg l3) 3 l2.toNatClampNeg ((gL (sI (sI σ 5 ((2 : Int32) * l1).toNatClampNeg l2) 5 (((2 : Int32) * l1) + (1 : Int32)).toNatClampNeg l3) 3 l2.toNatClampNeg) ||| v13)) 3 l3.toNatClampNeg) ||| v13)) 4 ((2 : Int32) * l1).toNatClampNeg l4) 4 (((2 : Int32) * l1) + (1 : Int32)).toNatClampNeg l5) k23) mi_X1_hasCell mv_X1_hasCell ml_X1_71 (Nat.lt_of_lt_of_le (by decide) hN) rfl rfl rfl ⟨⟨Nat.le_of_ble_eq_true rfl, Nat.le_of_ble_eq_true rfl⟩, rfl, rfl⟩ ⟨Nat.zero_le _, Nat.zero_le _⟩ hl.1 rfl (Nat.le_of_ble_eq_true rfl) dX1_layEdge_97 (fun z24 H locs hw => ?_)
        obtain ⟨φ28, h9, h_φ28⟩ := it_b h
        have hJ27 : ∀ (σ26 : vSt), σ26 = φ28 → ∀ (H : Heap) (locs : List Loc) (ls : Array Slot), PW K N ad (cC K ad) A s.heap σ26 H locs → lv_has ls 8 [(0, .ref (ad 0)), (5, .int l5), (6, .long v13)] → W p l e (rmF 2 21) s m args below meth c H locs 0 0 Q (F0 m 115 ls []) := by
          intro σ26 e9 H locs ls hw hl
          subst e9
          replace h := h_φ28
          refine lv_aload_n hx hb dX1_layEdge_115 rfl (lv_at hl 0 rfl) ?_
          refine lv_iload hx hb dX1_layEdge_116 (lv_at hl 1 rfl) ?_
          obtain ⟨v31, k32, h⟩ := it_b h
          refine kV_z (As := [.int l5]) (rest := []) (q := 0) hx_E hw (c_X1_hasCell l K N hN ad hI  l5 σ26 k32) mi_X1_hasCell mv_X1_hasCell ml_X1_71 (Nat.lt_of_lt_of_le (by decide) hN) rfl rfl rfl ⟨⟨Nat.le_of_ble_eq_true rfl, Nat.le_of_ble_eq_true rfl⟩, rfl, rfl⟩ ⟨Nat.zero_le _, Nat.zero_le _⟩ hl.1 rfl (Nat.le_of_ble_eq_true rfl) dX1_layEdge_118 (fun z33 H locs hw => ?_)
          refine lv_if_eq (tgt := 136) hx hb dX1_layEdge_121 (by decide) (fun c34 => ?_) (fun c34 => ?_)
          · replace h := it_t c34 h
            exact hE hw (Option.some.inj h) dX1_layEdge_136
          · replace h := it_f c34 h
            refine lv_aload_n hx hb dX1_layEdge_124 rfl (lv_at hl 0 rfl) ?_
            refine gC_0_1 hx_E hw hN fl_X1_15 dX1_layEdge_125 ?_
            refine lv_iload hx hb dX1_layEdge_128 (lv_at hl 1 rfl) ?_
            refine lv_dup2_11 hx hb dX1_layEdge_130 rfl rfl ?_
            obtain ⟨g35, h⟩ := it_g h
            refine aC_2 hx_E hw hN g35 dX1_layEdge_131 ?_
            refine lv_lload hx hb dX1_layEdge_132 (lv_at hl 2 rfl) ?_
            refine lv_lor hx hb dX1_layEdge_134 ?_
            obtain ⟨g36, h⟩ := it_g h
            refine sC_2 hx_E hw hN g36 dX1_layEdge_135 (fun H locs hw => ?_)
            exact hE hw (Option.some.inj h) dX1_layEdge_136
        replace h := h9
        refine lv_if_eq (tgt := 115) hx hb dX1_layEdge_100 (by decide) (fun c25 => ?_) (fun c25 => ?_)
        · replace h := it_t c25 h
          have e9 := Option.some.inj h
          subst e9
          exact hJ27 _ rfl  H locs ls hw (lv_sub hl [1, 6, 0] rfl)
        · replace h := it_f c25 h
          refine lv_aload_n hx hb dX1_layEdge_103 rfl (lv_at hl 1 rfl) ?_
          refine gC_0_1 hx_E hw hN fl_X1_15 dX1_layEdge_104 ?_
          refine lv_iload hx hb dX1_layEdge_107 (lv_at hl 5 rfl) ?_
          refine lv_dup2_11 hx hb dX1_layEdge_109 rfl rfl ?_
          obtain ⟨g29, h⟩ := it_g h
          refine aC_2 hx_E hw hN g29 dX1_layEdge_110 ?_
          refine lv_lload hx hb dX1_layEdge_111 (lv_at hl 0 rfl) ?_
          refine lv_lor hx hb dX1_layEdge_113 ?_
          obtain ⟨g30, h⟩ := it_g h
          refine sC_2 hx_E hw hN g30 dX1_layEdge_114 (fun H locs hw => ?_)
          have e9 := Option.some.inj h
          subst e9
          exact hJ27 _ rfl  H locs ls hw (lv_sub hl [1, 6, 0] rfl)
      · replace h := it_t c12 h
        exact hE hw (Option.some.inj h) dX1_layEdge_24
set_option maxHeartbeats 4000000 in
set_option maxRecDepth 100000 in
theorem c_X1_layEdgesFrom (l : Launch) (K : vK) (N : Nat) (hN : 6 ≤ N) (ad : Nat → Nat) (hI : adInj N ad) (l1 : Int32) (l2 : Int32) (σ : vSt) {σ' : vSt} (h : f_X1_layEdgesFrom l1 l2 σ = some σ') : MCv l yX1_layEdgesFrom (wsY yX1_layEdgesFrom cX1_layEdgesFrom 6 none) (rmF 3 48) K N ad (cC K ad) [.ref (ad 0), .int l1, .int l2] σ σ' := by
  refine MCv_of (own := RX1) (plainFor_of_name (by decide)) hI rfl (Nat.le_of_ble_eq_true rfl) ?_
  intro p e s m args below meth c A Q hx_E hE H locs ls hw hl
  have hx := hx_E.1; have hb := hx_E.2.1; have hown := hx_E.2.2.2.1; have hts := hx_E.2.2.2.2.1
  replace hl : lv_has ls 6 [(0, .ref (ad 0)), (1, .int l1), (2, .int l2)] := hl
  unfold f_X1_layEdgesFrom at h
  refine lv_iload_n hx hb dX1_layEdgesFrom_0 rfl (lv_at hl 1 rfl) ?_
  refine lv_aload_n hx hb dX1_layEdgesFrom_1 rfl (lv_at hl 0 rfl) ?_
  refine gC_0_5 hx_E hw hN fl_X1_47 dX1_layEdgesFrom_2 ?_
  refine lv_iconst (v := 1) hx hb dX1_layEdgesFrom_5 (by decide) ?_
  refine lv_iadd hx hb dX1_layEdgesFrom_6 ?_
  refine lv_imul hx hb dX1_layEdgesFrom_7 ?_
  refine lv_iload_n hx hb dX1_layEdgesFrom_8 rfl (lv_at hl 2 rfl) ?_
  refine lv_iadd hx hb dX1_layEdgesFrom_9 ?_
  obtain ⟨v1, e_v1, h⟩ := it_b h
  refine lt_topi (Option.some.inj e_v1) ?_
  refine lv_istore_n (lv' := [(3, .int v1), (0, .ref (ad 0)), (1, .int l1), (2, .int l2)]) hx hb dX1_layEdgesFrom_10 rfl hl (by decide) rfl (fun ls hl => ?_)
  refine lv_aload_n hx hb dX1_layEdgesFrom_11 rfl (lv_at hl 1 rfl) ?_
  refine lv_iload_n hx hb dX1_layEdgesFrom_12 rfl (lv_at hl 2 rfl) ?_
  refine lv_iload_n hx hb dX1_layEdgesFrom_13 rfl (lv_at hl 3 rfl) ?_
  obtain ⟨v2, k3, h⟩ := it_b h
  refine kV_i (As := [.int l1, .int l2]) (rest := []) (q := 0) hx_E hw (c_X1_cellAt l K N hN ad hI  l1 l2 σ k3) mi_X1_cellAt mv_X1_cellAt ml_X1_57 (Nat.lt_of_lt_of_le (by decide) hN) rfl rfl rfl ⟨⟨Nat.le_of_ble_eq_true rfl, Nat.le_of_ble_eq_true rfl⟩, rfl, rfl⟩ ⟨Nat.zero_le _, Nat.zero_le _⟩ hl.1 rfl (Nat.le_of_ble_eq_true rfl) dX1_layEdgesFrom_14 (fun H locs hw => ?_)
  refine lv_istore (lv' := [(4, .int v2), (3, .int v1), (0, .ref (ad 0)), (1, .int l1), (2, .int l2)]) hx hb dX1_layEdgesFrom_17 hl (by decide) rfl (fun ls hl => ?_)
  refine lv_iload_n hx hb dX1_layEdgesFrom_19 rfl (lv_at hl 4 rfl) ?_
  refine lv_aload_n hx hb dX1_layEdgesFrom_20 rfl (lv_at hl 2 rfl) ?_
  refine gC_0_5 hx_E hw hN fl_X1_47 dX1_layEdgesFrom_21 ?_
  obtain ⟨φ7, h9, h_φ7⟩ := it_b h
  have hJ6 : ∀ (σ5 : vSt), σ5 = φ7 → ∀ (H : Heap) (locs : List Loc) (ls : Array Slot), PW K N ad (cC K ad) A s.heap σ5 H locs → lv_has ls 6 [(0, .ref (ad 0)), (1, .int l1), (2, .int l2), (3, .int v1), (4, .int v2)] → W p l e (rmF 3 48) s m args below meth c H locs 0 0 Q (F0 m 53 ls []) := by
    intro σ5 e9 H locs ls hw hl
    subst e9
    replace h := h_φ7
    refine lv_iload_n hx hb dX1_layEdgesFrom_53 rfl (lv_at hl 1 rfl) ?_
    refine lv_aload_n hx hb dX1_layEdgesFrom_54 rfl (lv_at hl 0 rfl) ?_
    refine gC_0_6 hx_E hw hN fl_X1_50 dX1_layEdgesFrom_55 ?_
    refine lv_icmp_ge (tgt := 101) hx hb dX1_layEdgesFrom_58 (by decide) (fun c12 => ?_) (fun c12 => ?_)
    · replace h := it_t c12 h
      exact hE hw (Option.some.inj h) dX1_layEdgesFrom_101
    · replace h := it_f c12 h
      refine lv_aload_n hx hb dX1_layEdgesFrom_61 rfl (lv_at hl 0 rfl) ?_
      refine gC_0_6 hx_E hw hN fl_X1_50 dX1_layEdgesFrom_62 ?_
      refine lv_iconst (v := 1) hx hb dX1_layEdgesFrom_65 (by decide) ?_
      refine lv_iadd hx hb dX1_layEdgesFrom_66 ?_
      refine lv_aload_n hx hb dX1_layEdgesFrom_67 rfl (lv_at hl 0 rfl) ?_
      refine gC_0_5 hx_E hw hN fl_X1_47 dX1_layEdgesFrom_68 ?_
      refine lv_imul hx hb dX1_layEdgesFrom_71 ?_
      refine lv_iload_n hx hb dX1_layEdgesFrom_72 rfl (lv_at hl 3 rfl) ?_
      refine lv_iadd hx hb dX1_layEdgesFrom_73 ?_
      obtain ⟨v13, e_v13, h⟩ := it_b h
      refine lt_topi (Option.some.inj e_v13) ?_
      refine lv_istore (lv' := [(5, .int v13), (0, .ref (ad 0)), (1, .int l1), (2, .int l2), (3, .int v1), (4, .int v2)]) hx hb dX1_layEdgesFrom_74 hl (by decide) rfl (fun ls hl => ?_)
      refine lv_aload_n hx hb dX1_layEdgesFrom_76 rfl (lv_at hl 1 rfl) ?_
      refine lv_iload hx hb dX1_layEdgesFrom_77 (lv_at hl 0 rfl) ?_
      refine lv_iload_n hx hb dX1_layEdgesFrom_79 rfl (lv_at hl 4 rfl) ?_
      refine lv_iload_n hx hb dX1_layEdgesFrom_80 rfl (lv_at hl 4 rfl) ?_
      refine lv_aload_n hx hb dX1_layEdgesFrom_81 rfl (lv_at hl 1 rfl) ?_
      refine gC_0_5 hx_E hw hN fl_X1_47 dX1_layEdgesFrom_82 ?_
      refine lv_iadd hx hb dX1_layEdgesFrom_85 ?_
      refine lv_iconst (v := 1) hx hb dX1_layEdgesFrom_86 (by decide) ?_
      refine lv_iadd hx hb dX1_layEdgesFrom_87 ?_
      refine lv_aload_n hx hb dX1_layEdgesFrom_88 rfl (lv_at hl 1 rfl) ?_
      refine lv_iload_n hx hb dX1_layEdgesFrom_89 rfl (lv_at hl 2 rfl) ?_
      refine lv_iload_n hx hb dX1_layEdgesFrom_90 rfl (lv_at hl 3 rfl) ?_
      refine lv_iconst (v := 1) hx hb dX1_layEdgesFrom_91 (by decide) ?_
      refine lv_isub hx hb dX1_layEdgesFrom_92 ?_
      obtain ⟨v14, k15, h⟩ := it_b h
      refine kV_i (As := [.int l1, .int (l2 - (1 : Int32))]) (rest := [.int ((v1 + (gI σ5 0 5)) + (1 : Int32)), .int v1, .int v13, .ref (ad 0)]) (q := 0) hx_E hw (c_X1_cellAt l K N hN ad hI  l1 (l2 - (1 : Int32)) σ5 k15) mi_X1_cellAt mv_X1_cellAt ml_X1_57 (Nat.lt_of_lt_of_le (by decide) hN) rfl rfl rfl ⟨⟨Nat.le_of_ble_eq_true rfl, Nat.le_of_ble_eq_true rfl⟩, rfl, rfl⟩ ⟨Nat.zero_le _, Nat.zero_le _⟩ hl.1 rfl (Nat.le_of_ble_eq_true rfl) dX1_layEdgesFrom_93 (fun H locs hw => ?_)
      refine lv_iload hx hb dX1_layEdgesFrom_96 (lv_at hl 5 rfl) ?_
      obtain ⟨σ16, k17, h⟩ := it_b h
      refine kV_v (As := [.int v13, .int v1, .int ((v1 + (gI σ5 0 5)) + (1 : Int32)), .int v14, .int v2]) (rest := []) (q := 0) hx_E hw (c_X1_layEdge l K N hN ad hI  v13 v1 ((v1 + (gI σ5 0 5)) + (1 : Int32)) v14 v2 σ5 k17) mi_X1_layEdge mv_X1_layEdge ml_X1_60 (Nat.lt_of_lt_of_le (by decide) hN) rfl rfl rfl ⟨⟨Nat.le_of_ble_eq_true rfl, Nat.le_of_ble_eq_true rfl⟩, rfl, rfl⟩ ⟨Nat.zero_le _, Nat.zero_le _⟩ hl.1 rfl (Nat.le_of_ble_eq_true rfl) dX1_layEdgesFrom_98 (fun H locs hw => ?_)
      exact hE hw (Option.some.inj h) dX1_layEdgesFrom_101
  replace h := h9
  refine lv_icmp_ge (tgt := 53) hx hb dX1_layEdgesFrom_24 (by decide) (fun c4 => ?_) (fun c4 => ?_)
  · replace h := it_t c4 h
    have e9 := Option.some.inj h
    subst e9
    exact hJ6 _ rfl  H locs ls hw (lv_sub hl [2, 3, 4, 1, 0] rfl)
  · replace h := it_f c4 h
    refine lv_aload_n hx hb dX1_layEdgesFrom_27 rfl (lv_at hl 2 rfl) ?_
    refine lv_iload_n hx hb dX1_layEdgesFrom_28 rfl (lv_at hl 3 rfl) ?_
    refine lv_aload_n hx hb dX1_layEdgesFrom_29 rfl (lv_at hl 2 rfl) ?_
    refine gC_0_5 hx_E hw hN fl_X1_47 dX1_layEdgesFrom_30 ?_
    refine lv_imul hx hb dX1_layEdgesFrom_33 ?_
    refine lv_iload_n hx hb dX1_layEdgesFrom_34 rfl (lv_at hl 4 rfl) ?_
    refine lv_iadd hx hb dX1_layEdgesFrom_35 ?_
    refine lv_iload_n hx hb dX1_layEdgesFrom_36 rfl (lv_at hl 1 rfl) ?_
    refine lv_iload_n hx hb dX1_layEdgesFrom_37 rfl (lv_at hl 1 rfl) ?_
    refine lv_iconst (v := 1) hx hb dX1_layEdgesFrom_38 (by decide) ?_
    refine lv_iadd hx hb dX1_layEdgesFrom_39 ?_
    refine lv_aload_n hx hb dX1_layEdgesFrom_40 rfl (lv_at hl 2 rfl) ?_
    refine lv_iload_n hx hb dX1_layEdgesFrom_41 rfl (lv_at hl 3 rfl) ?_
    refine lv_iconst (v := 1) hx hb dX1_layEdgesFrom_42 (by decide) ?_
    refine lv_isub hx hb dX1_layEdgesFrom_43 ?_
    refine lv_iload_n hx hb dX1_layEdgesFrom_44 rfl (lv_at hl 4 rfl) ?_
    obtain ⟨v8, k9, h⟩ := it_b h
    refine kV_i (As := [.int (l1 - (1 : Int32)), .int l2]) (rest := [.int (v1 + (1 : Int32)), .int v1, .int ((l1 * (gI σ 0 5)) + l2), .ref (ad 0)]) (q := 0) hx_E hw (c_X1_cellAt l K N hN ad hI  (l1 - (1 : Int32)) l2 σ k9) mi_X1_cellAt mv_X1_cellAt ml_X1_57 (Nat.lt_of_lt_of_le (by decide) hN) rfl rfl rfl ⟨⟨Nat.le_of_ble_eq_true rfl, Nat.le_of_ble_eq_true rfl⟩, rfl, rfl⟩ ⟨Nat.zero_le _, Nat.zero_le _⟩ hl.1 rfl (Nat.le_of_ble_eq_true rfl) dX1_layEdgesFrom_45 (fun H locs hw => ?_)
    refine lv_iload hx hb dX1_layEdgesFrom_48 (lv_at hl 0 rfl) ?_
    obtain ⟨σ10, k11, h⟩ := it_b h
    refine kV_v (As := [.int ((l1 * (gI σ 0 5)) + l2), .int v1, .int (v1 + (1 : Int32)), .int v8, .int v2]) (rest := []) (q := 0) hx_E hw (c_X1_layEdge l K N hN ad hI  ((l1 * (gI σ 0 5)) + l2) v1 (v1 + (1 : Int32)) v8 v2 σ k11) mi_X1_layEdge mv_X1_layEdge ml_X1_60 (Nat.lt_of_lt_of_le (by decide) hN) rfl rfl rfl ⟨⟨Nat.le_of_ble_eq_true rfl, Nat.le_of_ble_eq_true rfl⟩, rfl, rfl⟩ ⟨Nat.zero_le _, Nat.zero_le _⟩ hl.1 rfl (Nat.le_of_ble_eq_true rfl) dX1_layEdgesFrom_50 (fun H locs hw => ?_)
    have e9 := Option.some.inj h
    subst e9
    exact hJ6 _ rfl  H locs ls hw (lv_sub hl [2, 3, 4, 1, 0] rfl)
