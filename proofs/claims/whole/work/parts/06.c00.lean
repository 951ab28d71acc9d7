set_option maxHeartbeats 4000000 in
theorem c_X6_becomes (l : Launch) (K : vK) (l0 : Int32) {r : Int32} (h : f_X6_becomes l0 = some r) : MCi l yX6_becomes (wsY yX6_becomes cX6_becomes 1 (some .int)) (rmF 1 0) K 0 ad_0 (cf_0) [.int l0] st_0 r st_0 := by
  refine MCi_of (own := RX6) (plainFor_of_name (by decide)) adInj_0 rfl (Nat.le_of_ble_eq_true rfl) ?_
  intro p e s m args below meth c A Q hx_E hE H locs ls hw hl
  have hx := hx_E.1; have hb := hx_E.2.1; have hown := hx_E.2.2.2.1; have hts := hx_E.2.2.2.2.1
  replace hl : lv_has ls 1 [(0, .int l0)] := hl
  unfold f_X6_becomes at h
  have hz : ∀ v : Int32, some v = some r → ∀ (H : Heap) (locs : List Loc) (ls : Array Slot), PW K 0 ad_0 (cf_0) A s.heap st_0 H locs → W p l e (rmF 1 0) s m args below meth c H locs 0 0 Q (F0 m 19 ls [.int v]) := fun v h H locs ls hw => hE hw (Option.some.inj h) rfl dX6_becomes_19
  refine lv_iload_n hx hb dX6_becomes_0 rfl (lv_at hl 0 rfl) ?_
  refine lv_if_lt (tgt := 18) hx hb dX6_becomes_1 (by decide) (fun c1 => ?_) (fun c1 => ?_)
  · replace h := it_t c1 h
    refine lv_iconst (v := 0) hx hb dX6_becomes_18 (by decide) ?_
    exact hz _ h _ _ _ hw
  · replace h := it_f c1 h
    refine lv_iload_n hx hb dX6_becomes_4 rfl (lv_at hl 0 rfl) ?_
    refine lv_bipush (v := 8) hx hb dX6_becomes_5 (by decide) ?_
    refine lv_icmp_ge (tgt := 18) hx hb dX6_becomes_7 (by decide) (fun c2 => ?_) (fun c2 => ?_)
    · replace h := it_t c2 h
      refine lv_iconst (v := 0) hx hb dX6_becomes_18 (by decide) ?_
      exact hz _ h _ _ _ hw
    · replace h := it_f c2 h
      obtain ⟨g3, h⟩ := it_g h
      obtain ⟨t, hZ, hT⟩ := hx_E.2.2.2.2.2.2.2.2.2.2.2.2.1
      refine va_gets hx hb hZ hw.2 hown (hts _ fl_X6_237) (fun _ h9 => h9) dX6_becomes_10 ?_
      refine lv_iload_n hx hb dX6_becomes_13 rfl (lv_at hl 0 rfl) ?_
      refine va_ti hx hb hT hw.2 (vp_in_iff.mpr g3) (v := .int (t_becI l0.toNatClampNeg)) rfl dX6_becomes_14 ?_
      refine lv_goto (tgt := 19) hx hb dX6_becomes_15 (by decide) ?_
      exact hz _ h _ _ _ hw
set_option maxHeartbeats 4000000 in
theorem c_X6_gradeOf (l : Launch) (K : vK) (l0 : Int32) {r : Int32} (h : f_X6_gradeOf l0 = some r) : MCi l yX6_gradeOf (wsY yX6_gradeOf cX6_gradeOf 1 (some .int)) (rmF 1 0) K 0 ad_0 (cf_0) [.int l0] st_0 r st_0 := by
  refine MCi_of (own := RX6) (plainFor_of_name (by decide)) adInj_0 rfl (Nat.le_of_ble_eq_true rfl) ?_
  intro p e s m args below meth c A Q hx_E hE H locs ls hw hl
  have hx := hx_E.1; have hb := hx_E.2.1; have hown := hx_E.2.2.2.1; have hts := hx_E.2.2.2.2.1
  replace hl : lv_has ls 1 [(0, .int l0)] := hl
  unfold f_X6_gradeOf at h
  have hz : ∀ v : Int32, some v = some r → ∀ (H : Heap) (locs : List Loc) (ls : Array Slot), PW K 0 ad_0 (cf_0) A s.heap st_0 H locs → W p l e (rmF 1 0) s m args below meth c H locs 0 0 Q (F0 m 19 ls [.int v]) := fun v h H locs ls hw => hE hw (Option.some.inj h) rfl dX6_gradeOf_19
  refine lv_iload_n hx hb dX6_gradeOf_0 rfl (lv_at hl 0 rfl) ?_
  refine lv_if_lt (tgt := 18) hx hb dX6_gradeOf_1 (by decide) (fun c1 => ?_) (fun c1 => ?_)
  · replace h := it_t c1 h
    refine lv_iconst (v := 0) hx hb dX6_gradeOf_18 (by decide) ?_
    exact hz _ h _ _ _ hw
  · replace h := it_f c1 h
    refine lv_iload_n hx hb dX6_gradeOf_4 rfl (lv_at hl 0 rfl) ?_
    refine lv_bipush (v := 8) hx hb dX6_gradeOf_5 (by decide) ?_
    refine lv_icmp_ge (tgt := 18) hx hb dX6_gradeOf_7 (by decide) (fun c2 => ?_) (fun c2 => ?_)
    · replace h := it_t c2 h
      refine lv_iconst (v := 0) hx hb dX6_gradeOf_18 (by decide) ?_
      exact hz _ h _ _ _ hw
    · replace h := it_f c2 h
      obtain ⟨g3, h⟩ := it_g h
      obtain ⟨t, hZ, hT⟩ := hx_E.2.2.2.2.2.2.2.2.2.2.2.2.2.1
      refine va_gets hx hb hZ hw.2 hown (hts _ fl_X6_240) (fun _ h9 => h9) dX6_gradeOf_10 ?_
      refine lv_iload_n hx hb dX6_gradeOf_13 rfl (lv_at hl 0 rfl) ?_
      refine va_ti hx hb hT hw.2 (vp_in_iff.mpr g3) (v := .int (t_graI l0.toNatClampNeg)) rfl dX6_gradeOf_14 ?_
      refine lv_goto (tgt := 19) hx hb dX6_gradeOf_15 (by decide) ?_
      exact hz _ h _ _ _ hw
set_option maxHeartbeats 4000000 in
set_option maxRecDepth 100000 in
theorem c_X5_append (l : Launch) (K : vK) (ad : Nat → Nat) (hI : adInj 30 ad) (l1 : Int32) (σ : vSt) {r : Int32} {σ' : vSt} (h : f_X5_append l1 σ = some (r, σ')) : MCi l yX5_append (wsY yX5_append cX5_append 2 (some .int)) (rmF 1 0) K 30 ad (cC K ad) [.ref (ad 27), .int l1] σ r σ' := by
  refine MCi_of (own := RX5) (plainFor_of_name (by decide)) hI rfl (Nat.le_of_ble_eq_true rfl) ?_
  intro p e s m args below meth c A Q hx_E hE H locs ls hw hl
  have hx := hx_E.1; have hb := hx_E.2.1; have hown := hx_E.2.2.2.1; have hts := hx_E.2.2.2.2.1
  replace hl : lv_has ls 2 [(0, .ref (ad 27)), (1, .int l1)] := hl
  unfold f_X5_append at h
  refine lv_aload_n hx hb dX5_append_0 rfl (lv_at hl 0 rfl) ?_
  refine gC_27_2 hx_E hw fl_X5_19 dX5_append_1 ?_
  refine lv_if_lt (tgt := 16) hx hb dX5_append_4 (by decide) (fun c1 => ?_) (fun c1 => ?_)
  · replace h := it_t c1 h
    refine lv_bipush (v := -4) hx hb dX5_append_16 (by decide) ?_
    exact hE hw (congrArg Prod.fst (Option.some.inj h)) (congrArg Prod.snd (Option.some.inj h)) dX5_append_18
  · replace h := it_f c1 h
    refine lv_aload_n hx hb dX5_append_7 rfl (lv_at hl 0 rfl) ?_
    refine gC_27_2 hx_E hw fl_X5_19 dX5_append_8 ?_
    refine lv_bipush (v := 40) hx hb dX5_append_11 (by decide) ?_
    refine lv_icmp_lt (tgt := 19) hx hb dX5_append_13 (by decide) (fun c2 => ?_) (fun c2 => ?_)
    · replace h := it_t c2 h
      refine lv_aload_n hx hb dX5_append_19 rfl (lv_at hl 0 rfl) ?_
      refine gC_27_0 hx_E hw fl_X5_9 dX5_append_20 ?_
      refine lv_aload_n hx hb dX5_append_23 rfl (lv_at hl 0 rfl) ?_
      refine gC_27_2 hx_E hw fl_X5_19 dX5_append_24 ?_
      refine lv_iload_n hx hb dX5_append_27 rfl (lv_at hl 1 rfl) ?_
      refine lv_i2b (v := l1.toInt8.toInt32) hx hb dX5_append_28 rfl ?_
      obtain ⟨g3, h⟩ := it_g h
      refine sC_28 hx_E hw g3 dX5_append_29 (fun H locs hw => ?_)
      refine lv_aload_n hx hb dX5_append_30 rfl (lv_at hl 0 rfl) ?_
      refine lv_dup hx hb dX5_append_31 rfl ?_
      refine gC_27_2 hx_E hw fl_X5_19 dX5_append_32 ?_
      refine lv_iconst (v := 1) hx hb dX5_append_35 (by decide) ?_
      refine lv_iadd hx hb dX5_append_36 ?_
      refine pC_27_2 hx_E hw fl_X5_19 dX5_append_37 (fun H locs hw => ?_)
      refine lv_aload_n hx hb dX5_append_40 rfl (lv_at hl 0 rfl) ?_
      refine gC_27_2 hx_E hw fl_X5_19 dX5_append_41 ?_
      exact hE hw (congrArg Prod.fst (Option.some.inj h)) (congrArg Prod.snd (Option.some.inj h)) dX5_append_44
    · replace h := it_f c2 h
      refine lv_bipush (v := -4) hx hb dX5_append_16 (by decide) ?_
      exact hE hw (congrArg Prod.fst (Option.some.inj h)) (congrArg Prod.snd (Option.some.inj h)) dX5_append_18
set_option maxHeartbeats 4000000 in
set_option maxRecDepth 100000 in
theorem c_X6_type (l : Launch) (K : vK) (ad : Nat → Nat) (hI : adInj 30 ad) (l1 : Int32) (σ : vSt) {r : Int32} {σ' : vSt} (h : f_X6_type l1 σ = some (r, σ')) : MCi l yX6_type (wsY yX6_type cX6_type 2 (some .int)) (rmF 2 21) K 30 ad (cC K ad) [.ref (ad 8), .int l1] σ r σ' := by
  refine MCi_of (own := RX6) (plainFor_of_name (by decide)) hI rfl (Nat.le_of_ble_eq_true rfl) ?_
  intro p e s m args below meth c A Q hx_E hE H locs ls hw hl
  have hx := hx_E.1; have hb := hx_E.2.1; have hown := hx_E.2.2.2.1; have hts := hx_E.2.2.2.2.1
  replace hl : lv_has ls 2 [(0, .ref (ad 8)), (1, .int l1)] := hl
  unfold f_X6_type at h
  refine lv_iload_n hx hb dX6_type_0 rfl (lv_at hl 1 rfl) ?_
  refine lv_if_lt (tgt := 10) hx hb dX6_type_1 (by decide) (fun c1 => ?_) (fun c1 => ?_)
  · replace h := it_t c1 h
    refine lv_bipush (v := -2) hx hb dX6_type_10 (by decide) ?_
    exact hE hw (congrArg Prod.fst (Option.some.inj h)) (congrArg Prod.snd (Option.some.inj h)) dX6_type_12
  · replace h := it_f c1 h
    refine lv_iload_n hx hb dX6_type_4 rfl (lv_at hl 1 rfl) ?_
    refine lv_bipush (v := 127) hx hb dX6_type_5 (by decide) ?_
    refine lv_icmp_le (tgt := 13) hx hb dX6_type_7 (by decide) (fun c2 => ?_) (fun c2 => ?_)
    · replace h := it_t c2 h
      refine lv_aload_n hx hb dX6_type_13 rfl (lv_at hl 0 rfl) ?_
      refine gC_8_5 hx_E hw fl_X6_61 dX6_type_14 ?_
      refine lv_iload_n hx hb dX6_type_17 rfl (lv_at hl 1 rfl) ?_
      obtain ⟨⟨v3, σ4⟩, k5, h⟩ := it_b h
      refine kV_i (As := [.int l1]) (rest := []) (q := 27) hx_E hw (c_X5_append l K ad hI  l1 σ k5) mi_X5_append mv_X5_append ml_X6_69 (by decide) rfl rfl rfl ⟨⟨Nat.le_of_ble_eq_true rfl, Nat.le_of_ble_eq_true rfl⟩, rfl, rfl⟩ ⟨Nat.zero_le _, Nat.zero_le _⟩ hl.1 rfl (Nat.le_of_ble_eq_true rfl) dX6_type_18 (fun H locs hw => ?_)
      exact hE hw (congrArg Prod.fst (Option.some.inj h)) (congrArg Prod.snd (Option.some.inj h)) dX6_type_21
    · replace h := it_f c2 h
      refine lv_bipush (v := -2) hx hb dX6_type_10 (by decide) ?_
      exact hE hw (congrArg Prod.fst (Option.some.inj h)) (congrArg Prod.snd (Option.some.inj h)) dX6_type_12
set_option maxHeartbeats 4000000 in
set_option maxRecDepth 100000 in
theorem c_X6_clearText (l : Launch) (K : vK) (ad : Nat → Nat) (hI : adInj 30 ad) (σ : vSt) {r : Int32} {σ' : vSt} (h : f_X6_clearText σ = some (r, σ')) : MCi l yX6_clearText (wsY yX6_clearText cX6_clearText 2 (some .int)) (rmF 1 0) K 30 ad (cC K ad) [.ref (ad 8)] σ r σ' := by
  refine MCi_of (own := RX6) (plainFor_of_name (by decide)) hI rfl (Nat.le_of_ble_eq_true rfl) ?_
  intro p e s m args below meth c A Q hx_E hE H locs ls hw hl
  have hx := hx_E.1; have hb := hx_E.2.1; have hown := hx_E.2.2.2.1; have hts := hx_E.2.2.2.2.1
  replace hl : lv_has ls 2 [(0, .ref (ad 8))] := hl
  unfold f_X6_clearText at h
  refine lv_aload_n hx hb dX6_clearText_0 rfl (lv_at hl 0 rfl) ?_
  refine gC_8_5 hx_E hw fl_X6_61 dX6_clearText_1 ?_
  refine gC_27_2 hx_E hw fl_X6_73 dX6_clearText_4 ?_
  obtain ⟨v1, e_v1, h⟩ := it_b h
  refine lt_topi (Option.some.inj e_v1) ?_
  refine lv_istore_n (lv' := [(1, .int v1), (0, .ref (ad 8))]) hx hb dX6_clearText_7 rfl hl (by decide) rfl (fun ls hl => ?_)
  refine lv_aload_n hx hb dX6_clearText_8 rfl (lv_at hl 1 rfl) ?_
  refine gC_8_5 hx_E hw fl_X6_61 dX6_clearText_9 ?_
  refine lv_iconst (v := 0) hx hb dX6_clearText_12 (by decide) ?_
  refine pC_27_2 hx_E hw fl_X6_73 dX6_clearText_13 (fun H locs hw => ?_)
  refine lv_iload_n hx hb dX6_clearText_16 rfl (lv_at hl 0 rfl) ?_
  exact hE hw (congrArg Prod.fst (Option.some.inj h)) (congrArg Prod.snd (Option.some.inj h)) dX6_clearText_17
set_option maxHeartbeats 4000000 in
set_option maxRecDepth 100000 in
theorem c_X5_endsRow (l : Launch) (K : vK) (ad : Nat → Nat) (hI : adInj 30 ad) (l1 : Int32) (σ : vSt) {r : Int32} (h : f_X5_endsRow l1 σ = some r) : MCz l yX5_endsRow (wsY yX5_endsRow cX5_endsRow 2 (some .boolean)) (rmF 1 0) K 30 ad (cC K ad) [.ref (ad 27), .int l1] σ r σ := by
  refine MCz_of (own := RX5) (plainFor_of_name (by decide)) hI rfl (Nat.le_of_ble_eq_true rfl) ?_
  intro p e s m args below meth c A Q hx_E hE H locs ls hw hl
  have hx := hx_E.1; have hb := hx_E.2.1; have hown := hx_E.2.2.2.1; have hts := hx_E.2.2.2.2.1
  replace hl : lv_has ls 2 [(0, .ref (ad 27)), (1, .int l1)] := hl
  unfold f_X5_endsRow at h
  refine lv_aload_n hx hb dX5_endsRow_0 rfl (lv_at hl 0 rfl) ?_
  refine gC_27_4 hx_E hw fl_X5_26 dX5_endsRow_1 ?_
  refine lv_iconst (v := 1) hx hb dX5_endsRow_4 (by decide) ?_
  refine lv_icmp_ne (tgt := 20) hx hb dX5_endsRow_5 (by decide) (fun c1 => ?_) (fun c1 => ?_)
  · replace h := it_f c1 h
    refine lv_iload_n hx hb dX5_endsRow_20 rfl (lv_at hl 1 rfl) ?_
    refine lv_aload_n hx hb dX5_endsRow_21 rfl (lv_at hl 0 rfl) ?_
    refine gC_27_3 hx_E hw fl_X5_23 dX5_endsRow_22 ?_
    refine lv_icmp_ne (tgt := 32) hx hb dX5_endsRow_25 (by decide) (fun c2 => ?_) (fun c2 => ?_)
    · replace h := it_f c2 h
      refine lv_iconst (v := 0) hx hb dX5_endsRow_32 (by decide) ?_
      exact hE hw (Option.some.inj h) rfl (Or.inl rfl) dX5_endsRow_33
    · replace h := it_t c2 h
      refine lv_iconst (v := 1) hx hb dX5_endsRow_28 (by decide) ?_
      refine lv_goto (tgt := 33) hx hb dX5_endsRow_29 (by decide) ?_
      exact hE hw (Option.some.inj h) rfl (Or.inr rfl) dX5_endsRow_33
  · replace h := it_t c1 h
    refine lv_iload_n hx hb dX5_endsRow_8 rfl (lv_at hl 1 rfl) ?_
    refine lv_if_le (tgt := 16) hx hb dX5_endsRow_9 (by decide) (fun c3 => ?_) (fun c3 => ?_)
    · replace h := it_t c3 h
      refine lv_iconst (v := 0) hx hb dX5_endsRow_16 (by decide) ?_
      refine lv_goto (tgt := 33) hx hb dX5_endsRow_17 (by decide) ?_
      exact hE hw (Option.some.inj h) rfl (Or.inl rfl) dX5_endsRow_33
    · replace h := it_f c3 h
      refine lv_iconst (v := 1) hx hb dX5_endsRow_12 (by decide) ?_
      refine lv_goto (tgt := 33) hx hb dX5_endsRow_13 (by decide) ?_
      exact hE hw (Option.some.inj h) rfl (Or.inr rfl) dX5_endsRow_33
set_option maxHeartbeats 4000000 in
set_option maxRecDepth 100000 in
theorem c_X5_isCell (l : Launch) (K : vK) (l0 : Int32) {r : Int32} (h : f_X5_isCell l0 = some r) : MCz l yX5_isCell (wsY yX5_isCell cX5_isCell 1 (some .boolean)) (rmF 1 0) K 0 ad_0 (cf_0) [.int l0] st_0 r st_0 := by
  refine MCz_of (own := RX5) (plainFor_of_name (by decide)) adInj_0 rfl (Nat.le_of_ble_eq_true rfl) ?_
  intro p e s m args below meth c A Q hx_E hE H locs ls hw hl
  have hx := hx_E.1; have hb := hx_E.2.1; have hown := hx_E.2.2.2.1; have hts := hx_E.2.2.2.2.1
  replace hl : lv_has ls 1 [(0, .int l0)] := hl
  unfold f_X5_isCell at h
  refine lv_iload_n hx hb dX5_isCell_0 rfl (lv_at hl 0 rfl) ?_
  refine lv_bipush (v := 46) hx hb dX5_isCell_1 (by decide) ?_
  refine lv_icmp_eq (tgt := 18) hx hb dX5_isCell_3 (by decide) (fun c1 => ?_) (fun c1 => ?_)
  · replace h := it_t c1 h
    refine lv_iconst (v := 1) hx hb dX5_isCell_18 (by decide) ?_
    refine lv_goto (tgt := 23) hx hb dX5_isCell_19 (by decide) ?_
    exact hE hw (Option.some.inj h) rfl (Or.inr rfl) dX5_isCell_23
  · replace h := it_f c1 h
    refine lv_iload_n hx hb dX5_isCell_6 rfl (lv_at hl 0 rfl) ?_
    refine lv_bipush (v := 48) hx hb dX5_isCell_7 (by decide) ?_
    refine lv_icmp_lt (tgt := 22) hx hb dX5_isCell_9 (by decide) (fun c2 => ?_) (fun c2 => ?_)
    · replace h := it_t c2 h
      refine lv_iconst (v := 0) hx hb dX5_isCell_22 (by decide) ?_
      exact hE hw (Option.some.inj h) rfl (Or.inl rfl) dX5_isCell_23
    · replace h := it_f c2 h
      refine lv_iload_n hx hb dX5_isCell_12 rfl (lv_at hl 0 rfl) ?_
      refine lv_bipush (v := 51) hx hb dX5_isCell_13 (by decide) ?_
      refine lv_icmp_gt (tgt := 22) hx hb dX5_isCell_15 (by decide) (fun c3 => ?_) (fun c3 => ?_)
      · replace h := it_t c3 h
        refine lv_iconst (v := 0) hx hb dX5_isCell_22 (by decide) ?_
        exact hE hw (Option.some.inj h) rfl (Or.inl rfl) dX5_isCell_23
      · replace h := it_f c3 h
        refine lv_iconst (v := 1) hx hb dX5_isCell_18 (by decide) ?_
        refine lv_goto (tgt := 23) hx hb dX5_isCell_19 (by decide) ?_
        exact hE hw (Option.some.inj h) rfl (Or.inr rfl) dX5_isCell_23
set_option maxHeartbeats 4000000 in
set_option maxRecDepth 100000 in
theorem c_X5_read (l : Launch) (K : vK) (ad : Nat → Nat) (hI : adInj 30 ad) (σ : vSt) {r : Int32} {σ' : vSt} (h : f_X5_read σ = some (r, σ')) : MCi l yX5_read (wsY yX5_read cX5_read 5 (some .int)) (rmF 2 21) K 30 ad (cC K ad) [.ref (ad 27)] σ r σ' := by
  refine MCi_of (own := RX5) (plainFor_of_name (by decide)) hI rfl (Nat.le_of_ble_eq_true rfl) ?_
  intro p e s m args below meth c A Q hx_E hE H locs ls hw hl
  have hx := hx_E.1; have hb := hx_E.2.1; have hown := hx_E.2.2.2.1; have hts := hx_E.2.2.2.2.1
  replace hl : lv_has ls 5 [(0, .ref (ad 27))] := hl
  unfold f_X5_read at h
  refine lv_aload_n hx hb dX5_read_0 rfl (lv_at hl 0 rfl) ?_
  refine lv_iconst (v := 4) hx hb dX5_read_1 (by decide) ?_
  refine pC_27_3 hx_E hw fl_X5_23 dX5_read_2 (fun H locs hw => ?_)
  refine lv_aload_n hx hb dX5_read_5 rfl (lv_at hl 0 rfl) ?_
  refine lv_iconst (v := 1) hx hb dX5_read_6 (by decide) ?_
  refine pC_27_4 hx_E hw fl_X5_26 dX5_read_7 (fun H locs hw => ?_)
  refine lv_iconst (v := 0) hx hb dX5_read_10 (by decide) ?_
  refine lv_istore_n (lv' := [(1, .int (0 : Int32)), (0, .ref (ad 27))]) hx hb dX5_read_11 rfl hl (by decide) rfl (fun ls hl => ?_)
  refine lv_iconst (v := 0) hx hb dX5_read_12 (by decide) ?_
  refine lv_istore_n (lv' := [(2, .int (0 : Int32)), (1, .int (0 : Int32)), (0, .ref (ad 27))]) hx hb dX5_read_13 rfl hl (by decide) rfl (fun ls hl => ?_)
  refine lv_iconst (v := 0) hx hb dX5_read_14 (by decide) ?_
  refine lv_istore_n (lv' := [(3, .int (0 : Int32)), (2, .int (0 : Int32)), (1, .int (0 : Int32)), (0, .ref (ad 27))]) hx hb dX5_read_15 rfl hl (by decide) rfl (fun ls hl => ?_)
  obtain ⟨σ1, e_σ1, h⟩ := it_b h
  replace hw := PW_cast (Option.some.inj e_σ1) hw
  obtain ⟨φ10, h9, h_φ10⟩ := it_b h
  have hJ9 : ∀ (v6 : Int32) (σ7 : vSt), .inr (v6, σ7) = φ10 → ∀ (H : Heap) (locs : List Loc) (ls : Array Slot), PW K 30 ad (cC K ad) A s.heap σ7 H locs → lv_has ls 5 [(0, .ref (ad 27)), (1, .int v6)] → W p l e (rmF 2 21) s m args below meth c H locs 0 0 Q (F0 m 151 ls []) := by
    intro v6 σ7 e9 H locs ls hw hl
    subst e9
    replace h := h_φ10
    refine lv_aload_n hx hb dX5_read_151 rfl (lv_at hl 0 rfl) ?_
    refine lv_iload_n hx hb dX5_read_152 rfl (lv_at hl 1 rfl) ?_
    obtain ⟨v33, k34, h⟩ := it_b h
    refine kV_z (As := [.int v6]) (rest := []) (q := 27) hx_E hw (c_X5_endsRow l K ad hI  v6 σ7 k34) mi_X5_endsRow mv_X5_endsRow ml_X5_29 (by decide) rfl rfl rfl ⟨⟨Nat.le_of_ble_eq_true rfl, Nat.le_of_ble_eq_true rfl⟩, rfl, rfl⟩ ⟨Nat.zero_le _, Nat.zero_le _⟩ hl.1 rfl (Nat.le_of_ble_eq_true rfl) dX5_read_153 (fun z35 H locs hw => ?_)
    refine lv_if_ne (tgt := 164) hx hb dX5_read_156 (by decide) (fun c36 => ?_) (fun c36 => ?_)
    · replace h := it_f c36 h
      refine lv_aload_n hx hb dX5_read_164 rfl (lv_at hl 0 rfl) ?_
      refine lv_iload_n hx hb dX5_read_165 rfl (lv_at hl 1 rfl) ?_
      refine pC_27_3 hx_E hw fl_X5_23 dX5_read_166 (fun H locs hw => ?_)
      refine lv_iconst (v := -1) hx hb dX5_read_169 (by decide) ?_
      exact hE hw (congrArg Prod.fst (Option.some.inj h)) (congrArg Prod.snd (Option.some.inj h)) dX5_read_170
    · replace h := it_t c36 h
      refine lv_aload_n hx hb dX5_read_159 rfl (lv_at hl 0 rfl) ?_
      refine gC_27_2 hx_E hw fl_X5_19 dX5_read_160 ?_
      exact hE hw (congrArg Prod.fst (Option.some.inj h)) (congrArg Prod.snd (Option.some.inj h)) dX5_read_163
  have hL8 : ∀ (n9 : Nat) (v2 : Int32) (v3 : Int32) (v4 : Int32) (σ5 : vSt), ∀ (H : Heap) (locs : List Loc) (ls : Array Slot), f_X5_read_16  n9 v2 v3 v4 σ5 = some φ10 → PW K 30 ad (cC K ad) A s.heap σ5 H locs → lv_has ls 5 [(0, .ref (ad 27)), (1, .int v2), (2, .int v3), (3, .int v4)] → W p l e (rmF 2 21) s m args below meth c H locs 0 0 Q (F0 m 16 ls []) := by
    intro n9
    induction n9 with
    | zero => intro v2 v3 v4 σ5 H locs ls h hw hl; rw [f_X5_read_16.eq_1] at h; exact it_n h
    | succ n9 ih =>
      intro v2 v3 v4 σ5 H locs ls h hw hl
      rw [f_X5_read_16.eq_2] at h
      refine lv_iload_n hx hb dX5_read_16 rfl (lv_at hl 3 rfl) ?_
      refine lv_aload_n hx hb dX5_read_17 rfl (lv_at hl 0 rfl) ?_
      refine gC_27_2 hx_E hw fl_X5_19 dX5_read_18 ?_
      refine lv_icmp_ge (tgt := 151) hx hb dX5_read_21 (by decide) (fun c11 => ?_) (fun c11 => ?_)
      · replace h := it_t c11 h
        have e9 := Option.some.inj h
        subst e9
        exact hJ9 _ _ rfl  H locs ls hw (lv_sub hl [0, 1] rfl)
      · replace h := it_f c11 h
        refine lv_iload_n hx hb dX5_read_24 rfl (lv_at hl 3 rfl) ?_
        refine lv_bipush (v := 40) hx hb dX5_read_25 (by decide) ?_
        refine lv_icmp_ge (tgt := 151) hx hb dX5_read_27 (by decide) (fun c12 => ?_) (fun c12 => ?_)
        · replace h := it_t c12 h
          have e9 := Option.some.inj h
          subst e9
          exact hJ9 _ _ rfl  H locs ls hw (lv_sub hl [0, 1] rfl)
        · replace h := it_f c12 h
          refine lv_aload_n hx hb dX5_read_30 rfl (lv_at hl 0 rfl) ?_
          refine gC_27_0 hx_E hw fl_X5_9 dX5_read_31 ?_
          refine lv_iload_n hx hb dX5_read_34 rfl (lv_at hl 3 rfl) ?_
          obtain ⟨g13, h⟩ := it_g h
          refine aC_28 hx_E hw g13 dX5_read_35 ?_
          obtain ⟨v14, e_v14, h⟩ := it_b h
          refine lt_topi (Option.some.inj e_v14) ?_
          refine lv_istore (lv' := [(4, .int v14), (0, .ref (ad 27)), (1, .int v2), (2, .int v3), (3, .int v4)]) hx hb dX5_read_36 hl (by decide) rfl (fun ls hl => ?_)
          refine lv_iload hx hb dX5_read_38 (lv_at hl 0 rfl) ?_
          refine lv_bipush (v := 32) hx hb dX5_read_40 (by decide) ?_
          refine lv_icmp_ne (tgt := 48) hx hb dX5_read_42 (by decide) (fun c15 => ?_) (fun c15 => ?_)
          · replace h := it_f c15 h
            refine lv_iload hx hb dX5_read_48 (lv_at hl 0 rfl) ?_
            refine lv_bipush (v := 47) hx hb dX5_read_50 (by decide) ?_
            refine lv_icmp_ne (tgt := 93) hx hb dX5_read_52 (by decide) (fun c16 => ?_) (fun c16 => ?_)
            · replace h := it_f c16 h
              refine lv_iload hx hb dX5_read_93 (lv_at hl 0 rfl) ?_
              obtain ⟨v17, k18, h⟩ := it_b h
              refine kS_z (As := [.int v14]) (rest := []) hx_E hw (c_X5_isCell l K v14 k18) mi_X5_isCell sm_X5_isCell ml_X5_33 rfl ⟨⟨Nat.le_of_ble_eq_true rfl, Nat.le_of_ble_eq_true rfl⟩, rfl, rfl⟩ ⟨Nat.zero_le _, Nat.zero_le _⟩ hl.1 rfl (Nat.le_of_ble_eq_true rfl) dX5_read_95 (fun z19 H locs hw => ?_)
              refine lv_if_eq (tgt := 115) hx hb dX5_read_98 (by decide) (fun c20 => ?_) (fun c20 => ?_)
              · replace h := it_t c20 h
                refine lv_iload_n hx hb dX5_read_115 rfl (lv_at hl 4 rfl) ?_
                have e9 := Option.some.inj h
                subst e9
                replace h := h_φ10
                exact hE hw (congrArg Prod.fst (Option.some.inj h)) (congrArg Prod.snd (Option.some.inj h)) dX5_read_116
              · replace h := it_f c20 h
                refine lv_iload_n hx hb dX5_read_101 rfl (lv_at hl 2 rfl) ?_
                refine lv_aload_n hx hb dX5_read_102 rfl (lv_at hl 1 rfl) ?_
                refine gC_27_3 hx_E hw fl_X5_23 dX5_read_103 ?_
                refine lv_icmp_ge (tgt := 115) hx hb dX5_read_106 (by decide) (fun c21 => ?_) (fun c21 => ?_)
                · replace h := it_t c21 h
                  refine lv_iload_n hx hb dX5_read_115 rfl (lv_at hl 4 rfl) ?_
                  have e9 := Option.some.inj h
                  subst e9
                  replace h := h_φ10
                  exact hE hw (congrArg Prod.fst (Option.some.inj h)) (congrArg Prod.snd (Option.some.inj h)) dX5_read_116
                · replace h := it_f c21 h
                  refine lv_iload_n hx hb dX5_read_109 rfl (lv_at hl 3 rfl) ?_
                  refine lv_bipush (v := 16) hx hb dX5_read_110 (by decide) ?_
                  refine lv_icmp_lt (tgt := 117) hx hb dX5_read_112 (by decide) (fun c22 => ?_) (fun c22 => ?_)
                  · replace h := it_t c22 h
                    refine lv_aload_n hx hb dX5_read_117 rfl (lv_at hl 1 rfl) ?_
                    refine gC_27_1 hx_E hw fl_X5_15 dX5_read_118 ?_
                    refine lv_iload_n hx hb dX5_read_121 rfl (lv_at hl 3 rfl) ?_
                    refine lv_iload hx hb dX5_read_122 (lv_at hl 0 rfl) ?_
                    refine lv_bipush (v := 46) hx hb dX5_read_124 (by decide) ?_
                    obtain ⟨φ26, h9, h_φ26⟩ := it_b h
                    have hJ25 : ∀ (v24 : Int32), v24 = φ26 → ∀ (H : Heap) (locs : List Loc) (ls : Array Slot), PW K 30 ad (cC K ad) A s.heap σ5 H locs → lv_has ls 5 [(0, .ref (ad 27)), (1, .int v2), (2, .int v3), (3, .int v4)] → W p l e (rmF 2 21) s m args below meth c H locs 0 0 Q (F0 m 138 ls [.int v24, .int v3, .ref (ad 29)]) := by
                      intro v24 e9 H locs ls hw hl
                      subst e9
                      replace h := h_φ26
                      obtain ⟨g27, h⟩ := it_g h
                      refine sC_29 hx_E hw g27 dX5_read_138 (fun H locs hw => ?_)
                      refine lv_iinc (v := (v3 + 1)) (lv' := [(2, .int (v3 + 1)), (0, .ref (ad 27)), (1, .int v2), (3, .int v4)]) hx hb dX5_read_139 hl (k := 2) rfl rfl (by decide) rfl (fun ls hl => ?_)
                      refine lv_iinc (v := (v2 + 1)) (lv' := [(1, .int (v2 + 1)), (2, .int (v3 + 1)), (0, .ref (ad 27)), (3, .int v4)]) hx hb dX5_read_142 hl (k := 2) rfl rfl (by decide) rfl (fun ls hl => ?_)
                      refine lv_iinc (v := (v4 + 1)) (lv' := [(3, .int (v4 + 1)), (1, .int (v2 + 1)), (2, .int (v3 + 1)), (0, .ref (ad 27))]) hx hb dX5_read_145 hl (k := 3) rfl rfl (by decide) rfl (fun ls hl => ?_)
                      refine lv_goto (tgt := 16) hx hb dX5_read_148 (by decide) ?_
                      exact ih _ _ _ _  H locs ls h hw (lv_sub hl [3, 1, 2, 0] rfl)
                    replace h := h9
                    refine lv_icmp_ne (tgt := 133) hx hb dX5_read_126 (by decide) (fun c23 => ?_) (fun c23 => ?_)
                    · replace h := it_f c23 h
                      refine lv_iload hx hb dX5_read_133 (lv_at hl 0 rfl) ?_
                      refine lv_bipush (v := 48) hx hb dX5_read_135 (by decide) ?_
                      refine lv_isub hx hb dX5_read_137 ?_
                      have e9 := Option.some.inj h
                      subst e9
                      exact hJ25 _ rfl  H locs ls hw (lv_sub hl [1, 2, 3, 4] rfl)
                    · replace h := it_t c23 h
                      refine lv_iconst (v := -1) hx hb dX5_read_129 (by decide) ?_
                      refine lv_goto (tgt := 138) hx hb dX5_read_130 (by decide) ?_
                      have e9 := Option.some.inj h
                      subst e9
                      exact hJ25 _ rfl  H locs ls hw (lv_sub hl [1, 2, 3, 4] rfl)
                  · replace h := it_f c22 h
                    refine lv_iload_n hx hb dX5_read_115 rfl (lv_at hl 4 rfl) ?_
                    have e9 := Option.some.inj h
                    subst e9
                    replace h := h_φ10
                    exact hE hw (congrArg Prod.fst (Option.some.inj h)) (congrArg Prod.snd (Option.some.inj h)) dX5_read_116
            · replace h := it_t c16 h
              refine lv_aload_n hx hb dX5_read_55 rfl (lv_at hl 1 rfl) ?_
              refine lv_iload_n hx hb dX5_read_56 rfl (lv_at hl 2 rfl) ?_
              obtain ⟨v28, k29, h⟩ := it_b h
              refine kV_z (As := [.int v2]) (rest := []) (q := 27) hx_E hw (c_X5_endsRow l K ad hI  v2 σ5 k29) mi_X5_endsRow mv_X5_endsRow ml_X5_29 (by decide) rfl rfl rfl ⟨⟨Nat.le_of_ble_eq_true rfl, Nat.le_of_ble_eq_true rfl⟩, rfl, rfl⟩ ⟨Nat.zero_le _, Nat.zero_le _⟩ hl.1 rfl (Nat.le_of_ble_eq_true rfl) dX5_read_57 (fun z30 H locs hw => ?_)
              refine lv_if_eq (tgt := 71) hx hb dX5_read_60 (by decide) (fun c31 => ?_) (fun c31 => ?_)
              · replace h := it_t c31 h
                refine lv_iload_n hx hb dX5_read_71 rfl (lv_at hl 4 rfl) ?_
                have e9 := Option.some.inj h
                subst e9
                replace h := h_φ10
                exact hE hw (congrArg Prod.fst (Option.some.inj h)) (congrArg Prod.snd (Option.some.inj h)) dX5_read_72
              · replace h := it_f c31 h
                refine lv_aload_n hx hb dX5_read_63 rfl (lv_at hl 1 rfl) ?_
                refine gC_27_4 hx_E hw fl_X5_26 dX5_read_64 ?_
                refine lv_iconst (v := 4) hx hb dX5_read_67 (by decide) ?_
                refine lv_icmp_ne (tgt := 73) hx hb dX5_read_68 (by decide) (fun c32 => ?_) (fun c32 => ?_)
                · replace h := it_f c32 h
                  refine lv_aload_n hx hb dX5_read_73 rfl (lv_at hl 1 rfl) ?_
                  refine lv_iload_n hx hb dX5_read_74 rfl (lv_at hl 2 rfl) ?_
                  refine pC_27_3 hx_E hw fl_X5_23 dX5_read_75 (fun H locs hw => ?_)
                  refine lv_aload_n hx hb dX5_read_78 rfl (lv_at hl 1 rfl) ?_
                  refine lv_dup hx hb dX5_read_79 rfl ?_
                  refine gC_27_4 hx_E hw fl_X5_26 dX5_read_80 ?_
                  refine lv_iconst (v := 1) hx hb dX5_read_83 (by decide) ?_
                  refine lv_iadd hx hb dX5_read_84 ?_
                  refine pC_27_4 hx_E hw fl_X5_26 dX5_read_85 (fun H locs hw => ?_)
                  refine lv_iconst (v := 0) hx hb dX5_read_88 (by decide) ?_
                  refine lv_istore_n (lv' := [(1, .int (0 : Int32)), (4, .int v14), (0, .ref (ad 27)), (2, .int v3), (3, .int v4)]) hx hb dX5_read_89 rfl hl (by decide) rfl (fun ls hl => ?_)
                  refine lv_goto (tgt := 145) hx hb dX5_read_90 (by decide) ?_
                  refine lv_iinc (v := (v4 + 1)) (lv' := [(3, .int (v4 + 1)), (1, .int (0 : Int32)), (4, .int v14), (0, .ref (ad 27)), (2, .int v3)]) hx hb dX5_read_145 hl (k := 4) rfl rfl (by decide) rfl (fun ls hl => ?_)
                  refine lv_goto (tgt := 16) hx hb dX5_read_148 (by decide) ?_
                  exact ih _ _ _ _  H locs ls h hw (lv_sub hl [3, 1, 4, 0] rfl)
                · replace h := it_t c32 h
                  refine lv_iload_n hx hb dX5_read_71 rfl (lv_at hl 4 rfl) ?_
                  have e9 := Option.some.inj h
                  subst e9
                  replace h := h_φ10
                  exact hE hw (congrArg Prod.fst (Option.some.inj h)) (congrArg Prod.snd (Option.some.inj h)) dX5_read_72
          · replace h := it_t c15 h
            refine lv_goto (tgt := 145) hx hb dX5_read_45 (by decide) ?_
            refine lv_iinc (v := (v4 + 1)) (lv' := [(3, .int (v4 + 1)), (4, .int v14), (0, .ref (ad 27)), (1, .int v2), (2, .int v3)]) hx hb dX5_read_145 hl (k := 4) rfl rfl (by decide) rfl (fun ls hl => ?_)
            refine lv_goto (tgt := 16) hx hb dX5_read_148 (by decide) ?_
            exact ih _ _ _ _  H locs ls h hw (lv_sub hl [2, 3, 4, 0] rfl)
  exact hL8 600 _ _ _ _  H locs ls h9 hw (lv_sub hl [3, 2, 1, 0] rfl)
set_option maxHeartbeats 4000000 in
set_option maxRecDepth 100000 in
theorem c_X6_fault (l : Launch) (K : vK) (ad : Nat → Nat) (hI : adInj 30 ad) (σ : vSt) {r : Int32} {σ' : vSt} (h : f_X6_fault σ = some (r, σ')) : MCi l yX6_fault (wsY yX6_fault cX6_fault 1 (some .int)) (rmF 3 45) K 30 ad (cC K ad) [.ref (ad 8)] σ r σ' := by
  refine MCi_of (own := RX6) (plainFor_of_name (by decide)) hI rfl (Nat.le_of_ble_eq_true rfl) ?_
  intro p e s m args below meth c A Q hx_E hE H locs ls hw hl
  have hx := hx_E.1; have hb := hx_E.2.1; have hown := hx_E.2.2.2.1; have hts := hx_E.2.2.2.2.1
  replace hl : lv_has ls 1 [(0, .ref (ad 8))] := hl
  unfold f_X6_fault at h
  refine lv_aload_n hx hb dX6_fault_0 rfl (lv_at hl 0 rfl) ?_
  refine gC_8_5 hx_E hw fl_X6_61 dX6_fault_1 ?_
  obtain ⟨⟨v1, σ2⟩, k3, h⟩ := it_b h
  refine kV_i (As := []) (rest := []) (q := 27) hx_E hw (c_X5_read l K ad hI   σ k3) mi_X5_read mv_X5_read ml_X6_77 (by decide) rfl rfl rfl ⟨⟨Nat.le_of_ble_eq_true rfl, Nat.le_of_ble_eq_true rfl⟩, rfl, rfl⟩ ⟨Nat.zero_le _, Nat.zero_le _⟩ hl.1 rfl (Nat.le_of_ble_eq_true rfl) dX6_fault_4 (fun H locs hw => ?_)
  exact hE hw (congrArg Prod.fst (Option.some.inj h)) (congrArg Prod.snd (Option.some.inj h)) dX6_fault_7
set_option maxHeartbeats 4000000 in
set_option maxRecDepth 100000 in
theorem c_J9_floorMod_7cf53 (l : Launch) (K : vK) (l0 : Int32) (l1 : Int32) {r : Int32} (h : f_J9_floorMod_7cf53 l0 l1 = some r) : MCi l yJ9_floorMod_7cf53 (wsY yJ9_floorMod_7cf53 cJ9_floorMod_7cf53 3 (some .int)) (rmF 1 0) K 0 ad_0 (cf_0) [.int l0, .int l1] st_0 r st_0 := by
  refine MCi_of (own := RJ9) pf_J9_floorMod_7cf53 adInj_0 rfl (Nat.le_of_ble_eq_true rfl) ?_
  intro p e s m args below meth c A Q hx_E hE H locs ls hw hl
  have hx := hx_E.1; have hb := hx_E.2.1; have hown := hx_E.2.2.2.1; have hts := hx_E.2.2.2.2.1
  replace hl : lv_has ls 3 [(0, .int l0), (1, .int l1)] := hl
  unfold f_J9_floorMod_7cf53 at h
  refine lv_iload_n hx hb dJ9_floorMod_7cf53_0 rfl (lv_at hl 0 rfl) ?_
  refine lv_iload_n hx hb dJ9_floorMod_7cf53_1 rfl (lv_at hl 1 rfl) ?_
  obtain ⟨g1, h⟩ := it_g h
  refine lv_irem hx hb dJ9_floorMod_7cf53_2 g1 ?_
  obtain ⟨v2, e_v2, h⟩ := it_b h
  refine lt_topi (Option.some.inj e_v2) ?_
  refine lv_istore_n (lv' := [(2, .int v2), (0, .int l0), (1, .int l1)]) hx hb dJ9_floorMod_7cf53_3 rfl hl (by decide) rfl (fun ls hl => ?_)
  refine lv_iload_n hx hb dJ9_floorMod_7cf53_4 rfl (lv_at hl 1 rfl) ?_
  refine lv_iload_n hx hb dJ9_floorMod_7cf53_5 rfl (lv_at hl 2 rfl) ?_
  refine lv_ixor hx hb dJ9_floorMod_7cf53_6 ?_
  refine lv_if_ge (tgt := 18) hx hb dJ9_floorMod_7cf53_7 (by decide) (fun c3 => ?_) (fun c3 => ?_)
  · replace h := it_t c3 h
    refine lv_iload_n hx hb dJ9_floorMod_7cf53_18 rfl (lv_at hl 0 rfl) ?_
    exact hE hw (Option.some.inj h) rfl dJ9_floorMod_7cf53_19
  · replace h := it_f c3 h
    refine lv_iload_n hx hb dJ9_floorMod_7cf53_10 rfl (lv_at hl 0 rfl) ?_
    refine lv_if_eq (tgt := 18) hx hb dJ9_floorMod_7cf53_11 (by decide) (fun c4 => ?_) (fun c4 => ?_)
    · replace h := it_t c4 h
      refine lv_iload_n hx hb dJ9_floorMod_7cf53_18 rfl (lv_at hl 0 rfl) ?_
      exact hE hw (Option.some.inj h) rfl dJ9_floorMod_7cf53_19
    · replace h := it_f c4 h
      refine lv_iload_n hx hb dJ9_floorMod_7cf53_14 rfl (lv_at hl 0 rfl) ?_
      refine lv_iload_n hx hb dJ9_floorMod_7cf53_15 rfl (lv_at hl 2 rfl) ?_
      refine lv_iadd hx hb dJ9_floorMod_7cf53_16 ?_
      exact hE hw (Option.some.inj h) rfl dJ9_floorMod_7cf53_17
set_option maxHeartbeats 4000000 in
set_option maxRecDepth 100000 in
theorem c_J9_min_7cf53 (l : Launch) (K : vK) (l0 : Int32) (l1 : Int32) {r : Int32} (h : f_J9_min_7cf53 l0 l1 = some r) : MCi l yJ9_min_7cf53 (wsY yJ9_min_7cf53 cJ9_min_7cf53 2 (some .int)) (rmF 1 0) K 0 ad_0 (cf_0) [.int l0, .int l1] st_0 r st_0 := by
  refine MCi_of (own := RJ9) pf_J9_min_7cf53 adInj_0 rfl (Nat.le_of_ble_eq_true rfl) ?_
  intro p e s m args below meth c A Q hx_E hE H locs ls hw hl
  have hx := hx_E.1; have hb := hx_E.2.1; have hown := hx_E.2.2.2.1; have hts := hx_E.2.2.2.2.1
  replace hl : lv_has ls 2 [(0, .int l0), (1, .int l1)] := hl
  unfold f_J9_min_7cf53 at h
  refine lv_iload_n hx hb dJ9_min_7cf53_0 rfl (lv_at hl 0 rfl) ?_
  refine lv_iload_n hx hb dJ9_min_7cf53_1 rfl (lv_at hl 1 rfl) ?_
  refine lv_icmp_gt (tgt := 9) hx hb dJ9_min_7cf53_2 (by decide) (fun c1 => ?_) (fun c1 => ?_)
  · replace h := it_t c1 h
    refine lv_iload_n hx hb dJ9_min_7cf53_9 rfl (lv_at hl 1 rfl) ?_
    exact hE hw (Option.some.inj h) rfl dJ9_min_7cf53_10
  · replace h := it_f c1 h
    refine lv_iload_n hx hb dJ9_min_7cf53_5 rfl (lv_at hl 0 rfl) ?_
    refine lv_goto (tgt := 10) hx hb dJ9_min_7cf53_6 (by decide) ?_
    exact hE hw (Option.some.inj h) rfl dJ9_min_7cf53_10
set_option maxHeartbeats 4000000 in
set_option maxRecDepth 100000 in
theorem c_X2_keep (l : Launch) (K : vK) (ad : Nat → Nat) (hI : adInj 30 ad) (σ : vSt) {σ' : vSt} (h : f_X2_keep σ = some σ') : MCv l yX2_keep (wsY yX2_keep cX2_keep 6 none) (rmF 2 22) K 30 ad (cC K ad) [.ref (ad 20), .ref (ad 0), .ref (ad 6), .ref (ad 9)] σ σ' := by
  refine MCv_of (own := RX2) (plainFor_of_name (by decide)) hI rfl (Nat.le_of_ble_eq_true rfl) ?_
  intro p e s m args below meth c A Q hx_E hE H locs ls hw hl
  have hx := hx_E.1; have hb := hx_E.2.1; have hown := hx_E.2.2.2.1; have hts := hx_E.2.2.2.2.1
  replace hl : lv_has ls 6 [(0, .ref (ad 20)), (1, .ref (ad 0)), (2, .ref (ad 6)), (3, .ref (ad 9))] := hl
  unfold f_X2_keep at h
  refine lv_aload_n hx hb dX2_keep_0 rfl (lv_at hl 0 rfl) ?_
  refine gC_20_7 hx_E hw fl_X2_31 dX2_keep_1 ?_
  refine lv_bipush (v := 8) hx hb dX2_keep_4 (by decide) ?_
  obtain ⟨v1, k2, h⟩ := it_b h
  refine kS_i (As := [.int (gI σ 20 7), .int (8 : Int32)]) (rest := []) hx_E hw (c_J9_floorMod_7cf53 l K (gI σ 20 7) (8 : Int32) k2) mi_J9_floorMod_7cf53 sm_J9_floorMod_7cf53 ml_X2_35 rfl ⟨⟨Nat.le_of_ble_eq_true rfl, Nat.le_of_ble_eq_true rfl⟩, rfl, rfl⟩ ⟨Nat.zero_le _, Nat.zero_le _⟩ hl.1 rfl (Nat.le_of_ble_eq_true rfl) dX2_keep_6 (fun H locs hw => ?_)
  refine lv_istore (lv' := [(4, .int v1), (0, .ref (ad 20)), (1, .ref (ad 0)), (2, .ref (ad 6)), (3, .ref (ad 9))]) hx hb dX2_keep_9 hl (by decide) rfl (fun ls hl => ?_)
  refine lv_aload_n hx hb dX2_keep_11 rfl (lv_at hl 1 rfl) ?_
  refine gC_20_0 hx_E hw fl_X2_9 dX2_keep_12 ?_
  refine lv_iload hx hb dX2_keep_15 (lv_at hl 0 rfl) ?_
  refine lv_aload_n hx hb dX2_keep_17 rfl (lv_at hl 2 rfl) ?_
  refine gC_0_5 hx_E hw (by decide) fl_X2_41 dX2_keep_18 ?_
  obtain ⟨g3, h⟩ := it_g h
  refine sC_21 hx_E hw g3 dX2_keep_21 (fun H locs hw => ?_)
  refine lv_aload_n hx hb dX2_keep_22 rfl (lv_at hl 1 rfl) ?_
  refine gC_20_1 hx_E hw fl_X2_15 dX2_keep_23 ?_
  refine lv_iload hx hb dX2_keep_26 (lv_at hl 0 rfl) ?_
  refine lv_aload_n hx hb dX2_keep_28 rfl (lv_at hl 2 rfl) ?_
  refine gC_0_6 hx_E hw (by decide) fl_X2_46 dX2_keep_29 ?_
  obtain ⟨g4, h⟩ := it_g h
  refine sC_22 hx_E hw g4 dX2_keep_32 (fun H locs hw => ?_)
  refine lv_aload_n hx hb dX2_keep_33 rfl (lv_at hl 1 rfl) ?_
  refine gC_20_2 hx_E hw fl_X2_18 dX2_keep_34 ?_
  refine lv_iload hx hb dX2_keep_37 (lv_at hl 0 rfl) ?_
  refine lv_aload_n hx hb dX2_keep_39 rfl (lv_at hl 3 rfl) ?_
  refine gC_B_2 hx_E hw isB_6 fl_X2_49 dX2_keep_40 ?_
  obtain ⟨g5, h⟩ := it_g h
  refine sC_23 hx_E hw g5 dX2_keep_43 (fun H locs hw => ?_)
  refine lv_aload_n hx hb dX2_keep_44 rfl (lv_at hl 1 rfl) ?_
  refine gC_20_3 hx_E hw fl_X2_22 dX2_keep_45 ?_
  refine lv_iload hx hb dX2_keep_48 (lv_at hl 0 rfl) ?_
  refine lv_aload_n hx hb dX2_keep_50 rfl (lv_at hl 3 rfl) ?_
  refine gC_B_3 hx_E hw isB_6 fl_X2_54 dX2_keep_51 ?_
  obtain ⟨g6, h⟩ := it_g h
  refine sC_24 hx_E hw g6 dX2_keep_54 (fun H locs hw => ?_)
  refine lv_iconst (v := 0) hx hb dX2_keep_55 (by decide) ?_
  refine lv_istore (lv' := [(5, .int (0 : Int32)), (4, .int v1), (0, .ref (ad 20)), (1, .ref (ad 0)), (2, .ref (ad 6)), (3, .ref (ad 9))]) hx hb dX2_keep_56 hl (by decide) rfl (fun ls hl => ?_)
  obtain ⟨σ7, e_σ7, h⟩ := it_b h
  replace hw := PW_cast (Option.some.inj e_σ7) hw
  obtain ⟨φ13, h9, h_φ13⟩ := it_b h
  have hJ12 : ∀ (σ10 : vSt), σ10 = φ13 → ∀ (H : Heap) (locs : List Loc) (ls : Array Slot), PW K 30 ad (cC K ad) A s.heap σ10 H locs → lv_has ls 6 [(0, .ref (ad 20)), (3, .ref (ad 9)), (4, .int v1)] → W p l e (rmF 2 22) s m args below meth c H locs 0 0 Q (F0 m 91 ls []) := by
    intro σ10 e9 H locs ls hw hl
    subst e9
    replace h := h_φ13
    refine lv_iconst (v := 0) hx hb dX2_keep_91 (by decide) ?_
    refine lv_istore (lv' := [(5, .int (0 : Int32)), (0, .ref (ad 20)), (3, .ref (ad 9)), (4, .int v1)]) hx hb dX2_keep_92 hl (by decide) rfl (fun ls hl => ?_)
    obtain ⟨φ22, h9, h_φ22⟩ := it_b h
    have hJ21 : ∀ (σ19 : vSt), σ19 = φ22 → ∀ (H : Heap) (locs : List Loc) (ls : Array Slot), PW K 30 ad (cC K ad) A s.heap σ19 H locs → lv_has ls 6 [(0, .ref (ad 20)), (4, .int v1)] → W p l e (rmF 2 22) s m args below meth c H locs 0 0 Q (F0 m 131 ls []) := by
      intro σ19 e9 H locs ls hw hl
      subst e9
      replace h := h_φ22
      refine lv_aload_n hx hb dX2_keep_131 rfl (lv_at hl 0 rfl) ?_
      refine lv_iload hx hb dX2_keep_132 (lv_at hl 1 rfl) ?_
      refine lv_iconst (v := 1) hx hb dX2_keep_134 (by decide) ?_
      refine lv_iadd hx hb dX2_keep_135 ?_
      refine lv_bipush (v := 8) hx hb dX2_keep_136 (by decide) ?_
      obtain ⟨v27, k28, h⟩ := it_b h
      refine kS_i (As := [.int (v1 + (1 : Int32)), .int (8 : Int32)]) (rest := [.ref (ad 20)]) hx_E hw (c_J9_floorMod_7cf53 l K (v1 + (1 : Int32)) (8 : Int32) k28) mi_J9_floorMod_7cf53 sm_J9_floorMod_7cf53 ml_X2_35 rfl ⟨⟨Nat.le_of_ble_eq_true rfl, Nat.le_of_ble_eq_true rfl⟩, rfl, rfl⟩ ⟨Nat.zero_le _, Nat.zero_le _⟩ hl.1 rfl (Nat.le_of_ble_eq_true rfl) dX2_keep_138 (fun H locs hw => ?_)
      refine pC_20_7 hx_E hw fl_X2_31 dX2_keep_141 (fun H locs hw => ?_)
      refine lv_aload_n hx hb dX2_keep_144 rfl (lv_at hl 0 rfl) ?_
      refine lv_aload_n hx hb dX2_keep_145 rfl (lv_at hl 0 rfl) ?_
      refine gC_20_6 hx_E hw fl_X2_57 dX2_keep_146 ?_
      refine lv_iconst (v := 1) hx hb dX2_keep_149 (by decide) ?_
      refine lv_iadd hx hb dX2_keep_150 ?_
      refine lv_bipush (v := 8) hx hb dX2_keep_151 (by decide) ?_
      obtain ⟨v29, k30, h⟩ := it_b h
      refine kS_i (As := [.int ((gI (sI σ19 20 7 v27) 20 6) + (1 : Int32)), .int (8 : Int32)]) (rest := [.ref (ad 20)]) hx_E hw (c_J9_min_7cf53 l K ((gI (sI σ19 20 7 v27) 20 6) + (1 : Int32)) (8 : Int32) k30) mi_J9_min_7cf53 sm_J9_min_7cf53 ml_X2_60 rfl ⟨⟨Nat.le_of_ble_eq_true rfl, Nat.le_of_ble_eq_true rfl⟩, rfl, rfl⟩ ⟨Nat.zero_le _, Nat.zero_le _⟩ hl.1 rfl (Nat.le_of_ble_eq_true rfl) dX2_keep_153 (fun H locs hw => ?_)
      refine pC_20_6 hx_E hw fl_X2_57 dX2_keep_156 (fun H locs hw => ?_)
      exact hE hw (Option.some.inj h) dX2_keep_159
    have hL20 : ∀ (n9 : Nat) (v17 : Int32) (σ18 : vSt), ∀ (H : Heap) (locs : List Loc) (ls : Array Slot), f_X2_keep_94 v1 n9 v17 σ18 = some φ22 → PW K 30 ad (cC K ad) A s.heap σ18 H locs → lv_has ls 6 [(0, .ref (ad 20)), (3, .ref (ad 9)), (4, .int v1), (5, .int v17)] → W p l e (rmF 2 22) s m args below meth c H locs 0 0 Q (F0 m 94 ls []) := by
      intro n9
      induction n9 with
      | zero => intro v17 σ18 H locs ls h hw hl; rw [f_X2_keep_94.eq_1] at h; exact it_n h
      | succ n9 ih =>
        intro v17 σ18 H locs ls h hw hl
        rw [f_X2_keep_94.eq_2] at h
        refine lv_iload hx hb dX2_keep_94 (lv_at hl 3 rfl) ?_
        refine lv_bipush (v := 8) hx hb dX2_keep_96 (by decide) ?_
        refine lv_icmp_ge (tgt := 131) hx hb dX2_keep_98 (by decide) (fun c23 => ?_) (fun c23 => ?_)
        · replace h := it_t c23 h
          have e9 := Option.some.inj h
          subst e9
          exact hJ21 _ rfl  H locs ls hw (lv_sub hl [0, 2] rfl)
        · replace h := it_f c23 h
          refine lv_iload hx hb dX2_keep_101 (lv_at hl 3 rfl) ?_
          refine lv_aload_n hx hb dX2_keep_103 rfl (lv_at hl 1 rfl) ?_
          refine alC_9 hx_E hw dX2_keep_104 ?_
          refine lv_icmp_ge (tgt := 131) hx hb dX2_keep_105 (by decide) (fun c24 => ?_) (fun c24 => ?_)
          · replace h := it_t c24 h
            have e9 := Option.some.inj h
            subst e9
            exact hJ21 _ rfl  H locs ls hw (lv_sub hl [0, 2] rfl)
          · replace h := it_f c24 h
            refine lv_aload_n hx hb dX2_keep_108 rfl (lv_at hl 0 rfl) ?_
            refine gC_20_5 hx_E hw fl_X2_28 dX2_keep_109 ?_
            refine lv_iload hx hb dX2_keep_112 (lv_at hl 2 rfl) ?_
            refine lv_bipush (v := 8) hx hb dX2_keep_114 (by decide) ?_
            refine lv_imul hx hb dX2_keep_116 ?_
            refine lv_iload hx hb dX2_keep_117 (lv_at hl 3 rfl) ?_
            refine lv_iadd hx hb dX2_keep_119 ?_
            refine lv_aload_n hx hb dX2_keep_120 rfl (lv_at hl 1 rfl) ?_
            refine lv_iload hx hb dX2_keep_121 (lv_at hl 3 rfl) ?_
            obtain ⟨g25, h⟩ := it_g h
            refine aC_9 hx_E hw g25 dX2_keep_123 ?_
            obtain ⟨g26, h⟩ := it_g h
            refine sC_26 hx_E hw g26 dX2_keep_124 (fun H locs hw => ?_)
            refine lv_iinc (v := (v17 + 1)) (lv' := [(5, .int (v17 + 1)), (0, .ref (ad 20)), (3, .ref (ad 9)), (4, .int v1)]) hx hb dX2_keep_125 hl (k := 3) rfl rfl (by decide) rfl (fun ls hl => ?_)
            refine lv_goto (tgt := 94) hx hb dX2_keep_128 (by decide) ?_
            exact ih _ _  H locs ls h hw (lv_sub hl [1, 2, 3, 0] rfl)
    exact hL20 600 _ _  H locs ls h9 hw (lv_sub hl [1, 2, 3, 0] rfl)
  have hL11 : ∀ (n9 : Nat) (v8 : Int32) (σ9 : vSt), ∀ (H : Heap) (locs : List Loc) (ls : Array Slot), f_X2_keep_58 v1 n9 v8 σ9 = some φ13 → PW K 30 ad (cC K ad) A s.heap σ9 H locs → lv_has ls 6 [(0, .ref (ad 20)), (1, .ref (ad 0)), (3, .ref (ad 9)), (4, .int v1), (5, .int v8)] → W p l e (rmF 2 22) s m args below meth c H locs 0 0 Q (F0 m 58 ls []) := by
    intro n9
    induction n9 with
    | zero => intro v8 σ9 H locs ls h hw hl; rw [f_X2_keep_58.eq_1] at h; exact it_n h
    | succ n9 ih =>
      intro v8 σ9 H locs ls h hw hl
      rw [f_X2_keep_58.eq_2] at h
      refine lv_iload hx hb dX2_keep_58 (lv_at hl 4 rfl) ?_
      refine lv_bipush (v := 16) hx hb dX2_keep_60 (by decide) ?_
      refine lv_icmp_ge (tgt := 91) hx hb dX2_keep_62 (by decide) (fun c14 => ?_) (fun c14 => ?_)
      · replace h := it_t c14 h
        have e9 := Option.some.inj h
        subst e9
        exact hJ12 _ rfl  H locs ls hw (lv_sub hl [0, 2, 3] rfl)
      · replace h := it_f c14 h
        refine lv_aload_n hx hb dX2_keep_65 rfl (lv_at hl 0 rfl) ?_
        refine gC_20_4 hx_E hw fl_X2_25 dX2_keep_66 ?_
        refine lv_iload hx hb dX2_keep_69 (lv_at hl 3 rfl) ?_
        refine lv_bipush (v := 16) hx hb dX2_keep_71 (by decide) ?_
        refine lv_imul hx hb dX2_keep_73 ?_
        refine lv_iload hx hb dX2_keep_74 (lv_at hl 4 rfl) ?_
        refine lv_iadd hx hb dX2_keep_76 ?_
        refine lv_aload_n hx hb dX2_keep_77 rfl (lv_at hl 1 rfl) ?_
        refine gC_0_0 hx_E hw (by decide) fl_X2_56 dX2_keep_78 ?_
        refine lv_iload hx hb dX2_keep_81 (lv_at hl 4 rfl) ?_
        obtain ⟨g15, h⟩ := it_g h
        refine aC_1 hx_E hw (by decide) g15 dX2_keep_83 ?_
        obtain ⟨g16, h⟩ := it_g h
        refine sC_25 hx_E hw g16 dX2_keep_84 (fun H locs hw => ?_)
        refine lv_iinc (v := (v8 + 1)) (lv' := [(5, .int (v8 + 1)), (0, .ref (ad 20)), (1, .ref (ad 0)), (3, .ref (ad 9)), (4, .int v1)]) hx hb dX2_keep_85 hl (k := 4) rfl rfl (by decide) rfl (fun ls hl => ?_)
        refine lv_goto (tgt := 58) hx hb dX2_keep_88 (by decide) ?_
        exact ih _ _  H locs ls h hw (lv_sub hl [1, 2, 3, 4, 0] rfl)
  exact hL11 600 _ _  H locs ls h9 hw (lv_sub hl [2, 3, 5, 1, 0] rfl)
set_option maxHeartbeats 4000000 in
set_option maxRecDepth 100000 in
theorem c_J9_max_7cf53 (l : Launch) (K : vK) (l0 : Int32) (l1 : Int32) {r : Int32} (h : f_J9_max_7cf53 l0 l1 = some r) : MCi l yJ9_max_7cf53 (wsY yJ9_max_7cf53 cJ9_max_7cf53 2 (some .int)) (rmF 1 0) K 0 ad_0 (cf_0) [.int l0, .int l1] st_0 r st_0 := by
  refine MCi_of (own := RJ9) pf_J9_max_7cf53 adInj_0 rfl (Nat.le_of_ble_eq_true rfl) ?_
  intro p e s m args below meth c A Q hx_E hE H locs ls hw hl
  have hx := hx_E.1; have hb := hx_E.2.1; have hown := hx_E.2.2.2.1; have hts := hx_E.2.2.2.2.1
  replace hl : lv_has ls 2 [(0, .int l0), (1, .int l1)] := hl
  unfold f_J9_max_7cf53 at h
  refine lv_iload_n hx hb dJ9_max_7cf53_0 rfl (lv_at hl 0 rfl) ?_
  refine lv_iload_n hx hb dJ9_max_7cf53_1 rfl (lv_at hl 1 rfl) ?_
  refine lv_icmp_lt (tgt := 9) hx hb dJ9_max_7cf53_2 (by decide) (fun c1 => ?_) (fun c1 => ?_)
  · replace h := it_t c1 h
    refine lv_iload_n hx hb dJ9_max_7cf53_9 rfl (lv_at hl 1 rfl) ?_
    exact hE hw (Option.some.inj h) rfl dJ9_max_7cf53_10
  · replace h := it_f c1 h
    refine lv_iload_n hx hb dJ9_max_7cf53_5 rfl (lv_at hl 0 rfl) ?_
    refine lv_goto (tgt := 10) hx hb dJ9_max_7cf53_6 (by decide) ?_
    exact hE hw (Option.some.inj h) rfl dJ9_max_7cf53_10
set_option maxHeartbeats 4000000 in
set_option maxRecDepth 100000 in
theorem c_X1_cellAt (l : Launch) (K : vK) (N : Nat) (hN : 6 ≤ N) (ad : Nat → Nat) (hI : adInj N ad) (l1 : Int32) (l2 : Int32) (σ : vSt) {r : Int32} (h : f_X1_cellAt l1 l2 σ = some r) : MCi l yX1_cellAt (wsY yX1_cellAt cX1_cellAt 4 (some .int)) (rmF 1 0) K N ad (cC K ad) [.ref (ad 0), .int l1, .int l2] σ r σ := by
  refine MCi_of (own := RX1) (plainFor_of_name (by decide)) hI rfl (Nat.le_of_ble_eq_true rfl) ?_
  intro p e s m args below meth c A Q hx_E hE H locs ls hw hl
  have hx := hx_E.1; have hb := hx_E.2.1; have hown := hx_E.2.2.2.1; have hts := hx_E.2.2.2.2.1
  replace hl : lv_has ls 4 [(0, .ref (ad 0)), (1, .int l1), (2, .int l2)] := hl
  unfold f_X1_cellAt at h
  refine lv_iload_n hx hb dX1_cellAt_0 rfl (lv_at hl 1 rfl) ?_
  obtain ⟨φ4, h9, h_φ4⟩ := it_b h
  have hJ3 : ∀ (v2 : Int32), v2 = φ4 → (v2 = 0 ∨ v2 = 1) → ∀ (H : Heap) (locs : List Loc) (ls : Array Slot), PW K N ad (cC K ad) A s.heap σ H locs → lv_has ls 4 [(0, .ref (ad 0)), (1, .int l1), (2, .int l2)] → W p l e (rmF 1 0) s m args below meth c H locs 0 0 Q (F0 m 29 ls [.int v2]) := by
    intro v2 e9 z_v2 H locs ls hw hl
    subst e9
    replace h := h_φ4
    refine lv_istore_n (lv' := [(3, .int v2), (0, .ref (ad 0)), (1, .int l1), (2, .int l2)]) hx hb dX1_cellAt_29 rfl hl (by decide) rfl (fun ls hl => ?_)
    refine lv_iload_n hx hb dX1_cellAt_30 rfl (lv_at hl 0 rfl) ?_
    refine lv_if_eq (tgt := 45) hx hb dX1_cellAt_31 (by decide) (fun c8 => ?_) (fun c8 => ?_)
    · replace h := it_t c8 h
      refine lv_iconst (v := -1) hx hb dX1_cellAt_45 (by decide) ?_
      exact hE hw (Option.some.inj h) rfl dX1_cellAt_46
    · replace h := it_f c8 h
      refine lv_iload_n hx hb dX1_cellAt_34 rfl (lv_at hl 2 rfl) ?_
      refine lv_aload_n hx hb dX1_cellAt_35 rfl (lv_at hl 1 rfl) ?_
      refine gC_0_5 hx_E hw hN fl_X1_47 dX1_cellAt_36 ?_
      refine lv_imul hx hb dX1_cellAt_39 ?_
      refine lv_iload_n hx hb dX1_cellAt_40 rfl (lv_at hl 3 rfl) ?_
      refine lv_iadd hx hb dX1_cellAt_41 ?_
      refine lv_goto (tgt := 46) hx hb dX1_cellAt_42 (by decide) ?_
      exact hE hw (Option.some.inj h) rfl dX1_cellAt_46
  replace h := h9
  refine lv_if_lt (tgt := 28) hx hb dX1_cellAt_1 (by decide) (fun c1 => ?_) (fun c1 => ?_)
  · replace h := it_t c1 h
    refine lv_iconst (v := 0) hx hb dX1_cellAt_28 (by decide) ?_
    have e9 := Option.some.inj h
    subst e9
    exact hJ3 _ rfl (Or.inl rfl) H locs ls hw (lv_sub hl [0, 1, 2] rfl)
  · replace h := it_f c1 h
    refine lv_iload_n hx hb dX1_cellAt_4 rfl (lv_at hl 1 rfl) ?_
    refine lv_aload_n hx hb dX1_cellAt_5 rfl (lv_at hl 0 rfl) ?_
    refine gC_0_6 hx_E hw hN fl_X1_50 dX1_cellAt_6 ?_
    refine lv_icmp_ge (tgt := 28) hx hb dX1_cellAt_9 (by decide) (fun c5 => ?_) (fun c5 => ?_)
    · replace h := it_t c5 h
      refine lv_iconst (v := 0) hx hb dX1_cellAt_28 (by decide) ?_
      have e9 := Option.some.inj h
      subst e9
      exact hJ3 _ rfl (Or.inl rfl) H locs ls hw (lv_sub hl [0, 1, 2] rfl)
    · replace h := it_f c5 h
      refine lv_iload_n hx hb dX1_cellAt_12 rfl (lv_at hl 2 rfl) ?_
      refine lv_if_lt (tgt := 28) hx hb dX1_cellAt_13 (by decide) (fun c6 => ?_) (fun c6 => ?_)
      · replace h := it_t c6 h
        refine lv_iconst (v := 0) hx hb dX1_cellAt_28 (by decide) ?_
        have e9 := Option.some.inj h
        subst e9
        exact hJ3 _ rfl (Or.inl rfl) H locs ls hw (lv_sub hl [0, 1, 2] rfl)
      · replace h := it_f c6 h
        refine lv_iload_n hx hb dX1_cellAt_16 rfl (lv_at hl 2 rfl) ?_
        refine lv_aload_n hx hb dX1_cellAt_17 rfl (lv_at hl 0 rfl) ?_
        refine gC_0_5 hx_E hw hN fl_X1_47 dX1_cellAt_18 ?_
        refine lv_icmp_ge (tgt := 28) hx hb dX1_cellAt_21 (by decide) (fun c7 => ?_) (fun c7 => ?_)
        · replace h := it_t c7 h
          refine lv_iconst (v := 0) hx hb dX1_cellAt_28 (by decide) ?_
          have e9 := Option.some.inj h
          subst e9
          exact hJ3 _ rfl (Or.inl rfl) H locs ls hw (lv_sub hl [0, 1, 2] rfl)
        · replace h := it_f c7 h
          refine lv_iconst (v := 1) hx hb dX1_cellAt_24 (by decide) ?_
          refine lv_goto (tgt := 29) hx hb dX1_cellAt_25 (by decide) ?_
          have e9 := Option.some.inj h
          subst e9
          exact hJ3 _ rfl (Or.inr rfl) H locs ls hw (lv_sub hl [0, 1, 2] rfl)
set_option maxHeartbeats 4000000 in
set_option maxRecDepth 100000 in
theorem c_X1_hasEdge (l : Launch) (K : vK) (N : Nat) (hN : 6 ≤ N) (ad : Nat → Nat) (hI : adInj N ad) (l1 : Int32) (σ : vSt) {r : Int32} (h : f_X1_hasEdge l1 σ = some r) : MCz l yX1_hasEdge (wsY yX1_hasEdge cX1_hasEdge 2 (some .boolean)) (rmF 1 0) K N ad (cC K ad) [.ref (ad 0), .int l1] σ r σ := by
  refine MCz_of (own := RX1) (plainFor_of_name (by decide)) hI rfl (Nat.le_of_ble_eq_true rfl) ?_
  intro p e s m args below meth c A Q hx_E hE H locs ls hw hl
  have hx := hx_E.1; have hb := hx_E.2.1; have hown := hx_E.2.2.2.1; have hts := hx_E.2.2.2.2.1
  replace hl : lv_has ls 2 [(0, .ref (ad 0)), (1, .int l1)] := hl
  unfold f_X1_hasEdge at h
  refine lv_iload_n hx hb dX1_hasEdge_0 rfl (lv_at hl 1 rfl) ?_
  refine lv_if_lt (tgt := 16) hx hb dX1_hasEdge_1 (by decide) (fun c1 => ?_) (fun c1 => ?_)
  · replace h := it_t c1 h
    refine lv_iconst (v := 0) hx hb dX1_hasEdge_16 (by decide) ?_
    exact hE hw (Option.some.inj h) rfl (Or.inl rfl) dX1_hasEdge_17
  · replace h := it_f c1 h
    refine lv_iload_n hx hb dX1_hasEdge_4 rfl (lv_at hl 1 rfl) ?_
    refine lv_aload_n hx hb dX1_hasEdge_5 rfl (lv_at hl 0 rfl) ?_
    refine gC_0_9 hx_E hw hN fl_X1_35 dX1_hasEdge_6 ?_
    refine lv_icmp_ge (tgt := 16) hx hb dX1_hasEdge_9 (by decide) (fun c2 => ?_) (fun c2 => ?_)
    · replace h := it_t c2 h
      refine lv_iconst (v := 0) hx hb dX1_hasEdge_16 (by decide) ?_
      exact hE hw (Option.some.inj h) rfl (Or.inl rfl) dX1_hasEdge_17
    · replace h := it_f c2 h
      refine lv_iconst (v := 1) hx hb dX1_hasEdge_12 (by decide) ?_
      refine lv_goto (tgt := 17) hx hb dX1_hasEdge_13 (by decide) ?_
      exact hE hw (Option.some.inj h) rfl (Or.inr rfl) dX1_hasEdge_17
set_option maxHeartbeats 4000000 in
set_option maxRecDepth 100000 in
theorem c_X1_hasCorner (l : Launch) (K : vK) (N : Nat) (hN : 6 ≤ N) (ad : Nat → Nat) (hI : adInj N ad) (l1 : Int32) (σ : vSt) {r : Int32} (h : f_X1_hasCorner l1 σ = some r) : MCz l yX1_hasCorner (wsY yX1_hasCorner cX1_hasCorner 2 (some .boolean)) (rmF 1 0) K N ad (cC K ad) [.ref (ad 0), .int l1] σ r σ := by
  refine MCz_of (own := RX1) (plainFor_of_name (by decide)) hI rfl (Nat.le_of_ble_eq_true rfl) ?_
  intro p e s m args below meth c A Q hx_E hE H locs ls hw hl
  have hx := hx_E.1; have hb := hx_E.2.1; have hown := hx_E.2.2.2.1; have hts := hx_E.2.2.2.2.1
  replace hl : lv_has ls 2 [(0, .ref (ad 0)), (1, .int l1)] := hl
  unfold f_X1_hasCorner at h
  refine lv_iload_n hx hb dX1_hasCorner_0 rfl (lv_at hl 1 rfl) ?_
  refine lv_if_lt (tgt := 16) hx hb dX1_hasCorner_1 (by decide) (fun c1 => ?_) (fun c1 => ?_)
  · replace h := it_t c1 h
    refine lv_iconst (v := 0) hx hb dX1_hasCorner_16 (by decide) ?_
    exact hE hw (Option.some.inj h) rfl (Or.inl rfl) dX1_hasCorner_17
  · replace h := it_f c1 h
    refine lv_iload_n hx hb dX1_hasCorner_4 rfl (lv_at hl 1 rfl) ?_
    refine lv_aload_n hx hb dX1_hasCorner_5 rfl (lv_at hl 0 rfl) ?_
    refine gC_0_8 hx_E hw hN fl_X1_32 dX1_hasCorner_6 ?_
    refine lv_icmp_ge (tgt := 16) hx hb dX1_hasCorner_9 (by decide) (fun c2 => ?_) (fun c2 => ?_)
    · replace h := it_t c2 h
      refine lv_iconst (v := 0) hx hb dX1_hasCorner_16 (by decide) ?_
      exact hE hw (Option.some.inj h) rfl (Or.inl rfl) dX1_hasCorner_17
    · replace h := it_f c2 h
      refine lv_iconst (v := 1) hx hb dX1_hasCorner_12 (by decide) ?_
      refine lv_goto (tgt := 17) hx hb dX1_hasCorner_13 (by decide) ?_
      exact hE hw (Option.some.inj h) rfl (Or.inr rfl) dX1_hasCorner_17
set_option maxHeartbeats 4000000 in
set_option maxRecDepth 100000 in
theorem c_X1_hasCell (l : Launch) (K : vK) (N : Nat) (hN : 6 ≤ N) (ad : Nat → Nat) (hI : adInj N ad) (l1 : Int32) (σ : vSt) {r : Int32} (h : f_X1_hasCell l1 σ = some r) : MCz l yX1_hasCell (wsY yX1_hasCell cX1_hasCell 2 (some .boolean)) (rmF 1 0) K N ad (cC K ad) [.ref (ad 0), .int l1] σ r σ := by
  refine MCz_of (own := RX1) (plainFor_of_name (by decide)) hI rfl (Nat.le_of_ble_eq_true rfl) ?_
  intro p e s m args below meth c A Q hx_E hE H locs ls hw hl
  have hx := hx_E.1; have hb := hx_E.2.1; have hown := hx_E.2.2.2.1; have hts := hx_E.2.2.2.2.1
  replace hl : lv_has ls 2 [(0, .ref (ad 0)), (1, .int l1)] := hl
  unfold f_X1_hasCell at h
  refine lv_iload_n hx hb dX1_hasCell_0 rfl (lv_at hl 1 rfl) ?_
  refine lv_if_lt (tgt := 16) hx hb dX1_hasCell_1 (by decide) (fun c1 => ?_) (fun c1 => ?_)
  · replace h := it_t c1 h
    refine lv_iconst (v := 0) hx hb dX1_hasCell_16 (by decide) ?_
    exact hE hw (Option.some.inj h) rfl (Or.inl rfl) dX1_hasCell_17
  · replace h := it_f c1 h
    refine lv_iload_n hx hb dX1_hasCell_4 rfl (lv_at hl 1 rfl) ?_
    refine lv_aload_n hx hb dX1_hasCell_5 rfl (lv_at hl 0 rfl) ?_
    refine gC_0_7 hx_E hw hN fl_X1_28 dX1_hasCell_6 ?_
    refine lv_icmp_ge (tgt := 16) hx hb dX1_hasCell_9 (by decide) (fun c2 => ?_) (fun c2 => ?_)
    · replace h := it_t c2 h
      refine lv_iconst (v := 0) hx hb dX1_hasCell_16 (by decide) ?_
      exact hE hw (Option.some.inj h) rfl (Or.inl rfl) dX1_hasCell_17
    · replace h := it_f c2 h
      refine lv_iconst (v := 1) hx hb dX1_hasCell_12 (by decide) ?_
      refine lv_goto (tgt := 17) hx hb dX1_hasCell_13 (by decide) ?_
      exact hE hw (Option.some.inj h) rfl (Or.inr rfl) dX1_hasCell_17
set_option maxHeartbeats 4000000 in
set_option maxRecDepth 100000 in
theorem c_X1_layEdge (l : Launch) (K : vK) (N : Nat) (hN : 6 ≤ N) (ad : Nat → Nat) (hI : adInj N ad) (l1 : Int32) (l2 : Int32) (l3 : Int32) (l4 : Int32) (l5 : Int32) (σ : vSt) {σ' : vSt} (h : f_X1_layEdge l1 l2 l3 l4 l5 σ = some σ') : MCv l yX1_layEdge (wsY yX1_layEdge cX1_layEdge 8 none) (rmF 2 21) K N ad (cC K ad) [.ref (ad 0), .int l1, .int l2, .int l3, .int l4, .int l5] σ σ' := by
  refine MCv_of (own := RX1) (plainFor_of_name (by decide)) hI rfl (Nat.le_of_ble_eq_true rfl) ?_
  intro p e s m args below meth c A Q hx_E hE H locs ls hw hl
  have hx := hx_E.1; have hb := hx_E.2.1; have hown := hx_E.2.2.2.1; have hts := hx_E.2.2.2.2.1
  replace hl : lv_has ls 8 [(0, .ref (ad 0)), (1, .int l1), (2, .int l2), (3, .int l3), (4, .int l4), (5, .int l5)] := hl
  unfold f_X1_layEdge at h
  refine lv_aload_n hx hb dX1_layEdge_0 rfl (lv_at hl 0 rfl) ?_
  refine lv_iload_n hx hb dX1_layEdge_1 rfl (lv_at hl 1 rfl) ?_
  obtain ⟨v1, k2, h⟩ := it_b h
  refine kV_z (As := [.int l1]) (rest := []) (q := 0) hx_E hw (c_X1_hasEdge l K N hN ad hI  l1 σ k2) mi_X1_hasEdge mv_X1_hasEdge ml_X1_64 (Nat.lt_of_lt_of_le (by decide) hN) rfl rfl rfl ⟨⟨Nat.le_of_ble_eq_true rfl, Nat.le_of_ble_eq_true rfl⟩, rfl, rfl⟩ ⟨Nat.zero_le _, Nat.zero_le _⟩ hl.1 rfl (Nat.le_of_ble_eq_true rfl) dX1_layEdge_2 (fun z3 H locs hw => ?_)
  refine lv_if_eq (tgt := 24) hx hb dX1_layEdge_5 (by decide) (fun c4 => ?_) (fun c4 => ?_)
  · replace h := it_t c4 h
    exact hE hw (Option.some.inj h) dX1_layEdge_24
  · replace h := it_f c4 h
    refine lv_aload_n hx hb dX1_layEdge_8 rfl (lv_at hl 0 rfl) ?_
    refine lv_iload_n hx hb dX1_layEdge_9 rfl (lv_at hl 2 rfl) ?_
    obtain ⟨v5, k6, h⟩ := it_b h
    refine kV_z (As := [.int l2]) (rest := []) (q := 0) hx_E hw (c_X1_hasCorner l K N hN ad hI  l2 σ k6) mi_X1_hasCorner mv_X1_hasCorner ml_X1_68 (Nat.lt_of_lt_of_le (by decide) hN) rfl rfl rfl ⟨⟨Nat.le_of_ble_eq_true rfl, Nat.le_of_ble_eq_true rfl⟩, rfl, rfl⟩ ⟨Nat.zero_le _, Nat.zero_le _⟩ hl.1 rfl (Nat.le_of_ble_eq_true rfl) dX1_layEdge_10 (fun z7 H locs hw => ?_)
    refine lv_if_eq (tgt := 24) hx hb dX1_layEdge_13 (by decide) (fun c8 => ?_) (fun c8 => ?_)
    · replace h := it_t c8 h
      exact hE hw (Option.some.inj h) dX1_layEdge_24
    · replace h := it_f c8 h
      refine lv_aload_n hx hb dX1_layEdge_16 rfl (lv_at hl 0 rfl) ?_
      refine lv_iload_n hx hb dX1_layEdge_17 rfl (lv_at hl 3 rfl) ?_
      obtain ⟨v9, k10, h⟩ := it_b h
      refine kV_z (As := [.int l3]) (rest := []) (q := 0) hx_E hw (c_X1_hasCorner l K N hN ad hI  l3 σ k10) mi_X1_hasCorner mv_X1_hasCorner ml_X1_68 (Nat.lt_of_lt_of_le (by decide) hN) rfl rfl rfl ⟨⟨Nat.le_of_ble_eq_true rfl, Nat.le_of_ble_eq_true rfl⟩, rfl, rfl⟩ ⟨Nat.zero_le _, Nat.zero_le _⟩ hl.1 rfl (Nat.le_of_ble_eq_true rfl) dX1_layEdge_18 (fun z11 H locs hw => ?_)
      refine lv_if_ne (tgt := 25) hx hb dX1_layEdge_21 (by decide) (fun c12 => ?_) (fun c12 => ?_)
      · replace h := it_f c12 h
        refine lv_lconst (v := 1) hx hb dX1_layEdge_25 (by decide) ?_
        refine lv_iload_n hx hb dX1_layEdge_26 rfl (lv_at hl 1 rfl) ?_
        refine lv_lshl (v := (o_lshl (1 : Int64) l1)) hx hb dX1_layEdge_27 rfl ?_
        obtain ⟨v13, e_v13, h⟩ := it_b h
        refine lt_topl (Option.some.inj e_v13) ?_
        refine lv_lstore (lv' := [(6, .long v13), (0, .ref (ad 0)), (1, .int l1), (2, .int l2), (3, .int l3), (4, .int l4), (5, .int l5)]) hx hb dX1_layEdge_28 hl (by decide) rfl (fun ls hl => ?_)
        refine lv_aload_n hx hb dX1_layEdge_30 rfl (lv_at hl 1 rfl) ?_
        refine gC_0_4 hx_E hw hN fl_X1_25 dX1_layEdge_31 ?_
        refine lv_iconst (v := 2) hx hb dX1_layEdge_34 (by decide) ?_
        refine lv_iload_n hx hb dX1_layEdge_35 rfl (lv_at hl 2 rfl) ?_
        refine lv_imul hx hb dX1_layEdge_36 ?_
        refine lv_iload_n hx hb dX1_layEdge_37 rfl (lv_at hl 3 rfl) ?_
        obtain ⟨g14, h⟩ := it_g h
        refine sC_5 hx_E hw hN g14 dX1_layEdge_38 (fun H locs hw => ?_)
        refine lv_aload_n hx hb dX1_layEdge_39 rfl (lv_at hl 1 rfl) ?_
        refine gC_0_4 hx_E hw hN fl_X1_25 dX1_layEdge_40 ?_
        refine lv_iconst (v := 2) hx hb dX1_layEdge_43 (by decide) ?_
        refine lv_iload_n hx hb dX1_layEdge_44 rfl (lv_at hl 2 rfl) ?_
        refine lv_imul hx hb dX1_layEdge_45 ?_
        refine lv_iconst (v := 1) hx hb dX1_layEdge_46 (by decide) ?_
        refine lv_iadd hx hb dX1_layEdge_47 ?_
        refine lv_iload_n hx hb dX1_layEdge_48 rfl (lv_at hl 4 rfl) ?_
        obtain ⟨g15, h⟩ := it_g h
        refine sC_5 hx_E hw hN g15 dX1_layEdge_49 (fun H locs hw => ?_)
        refine lv_aload_n hx hb dX1_layEdge_50 rfl (lv_at hl 1 rfl) ?_
        refine gC_0_2 hx_E hw hN fl_X1_19 dX1_layEdge_51 ?_
        refine lv_iload_n hx hb dX1_layEdge_54 rfl (lv_at hl 3 rfl) ?_
        refine lv_dup2_11 hx hb dX1_layEdge_55 rfl rfl ?_
        obtain ⟨g16, h⟩ := it_g h
        refine aC_3 hx_E hw hN g16 dX1_layEdge_56 ?_
        refine lv_lload hx hb dX1_layEdge_57 (lv_at hl 0 rfl) ?_
        refine lv_lor hx hb dX1_layEdge_59 ?_
        obtain ⟨g17, h⟩ := it_g h
        refine sC_3 hx_E hw hN g17 dX1_layEdge_60 (fun H locs hw => ?_)
        refine lv_aload_n hx hb dX1_layEdge_61 rfl (lv_at hl 1 rfl) ?_
        refine gC_0_2 hx_E hw hN fl_X1_19 dX1_layEdge_62 ?_
        refine lv_iload_n hx hb dX1_layEdge_65 rfl (lv_at hl 4 rfl) ?_
        refine lv_dup2_11 hx hb dX1_layEdge_66 rfl rfl ?_
        obtain ⟨g18, h⟩ := it_g h
        refine aC_3 hx_E hw hN g18 dX1_layEdge_67 ?_
        refine lv_lload hx hb dX1_layEdge_68 (lv_at hl 0 rfl) ?_
        refine lv_lor hx hb dX1_layEdge_70 ?_
        obtain ⟨g19, h⟩ := it_g h
        refine sC_3 hx_E hw hN g19 dX1_layEdge_71 (fun H locs hw => ?_)
        refine lv_aload_n hx hb dX1_layEdge_72 rfl (lv_at hl 1 rfl) ?_
        refine gC_0_3 hx_E hw hN fl_X1_22 dX1_layEdge_73 ?_
        refine lv_iconst (v := 2) hx hb dX1_layEdge_76 (by decide) ?_
        refine lv_iload_n hx hb dX1_layEdge_77 rfl (lv_at hl 2 rfl) ?_
        refine lv_imul hx hb dX1_layEdge_78 ?_
        refine lv_iload hx hb dX1_layEdge_79 (lv_at hl 5 rfl) ?_
        obtain ⟨g20, h⟩ := it_g h
        refine sC_4 hx_E hw hN g20 dX1_layEdge_81 (fun H locs hw => ?_)
        refine lv_aload_n hx hb dX1_layEdge_82 rfl (lv_at hl 1 rfl) ?_
        refine gC_0_3 hx_E hw hN fl_X1_22 dX1_layEdge_83 ?_
        refine lv_iconst (v := 2) hx hb dX1_layEdge_86 (by decide) ?_
        refine lv_iload_n hx hb dX1_layEdge_87 rfl (lv_at hl 2 rfl) ?_
        refine lv_imul hx hb dX1_layEdge_88 ?_
        refine lv_iconst (v := 1) hx hb dX1_layEdge_89 (by decide) ?_
        refine lv_iadd hx hb dX1_layEdge_90 ?_
        refine lv_iload hx hb dX1_layEdge_91 (lv_at hl 6 rfl) ?_
        obtain ⟨g21, h⟩ := it_g h
        refine sC_4 hx_E hw hN g21 dX1_layEdge_93 (fun H locs hw => ?_)
        refine lv_aload_n hx hb dX1_layEdge_94 rfl (lv_at hl 1 rfl) ?_
        refine lv_iload hx hb dX1_layEdge_95 (lv_at hl 5 rfl) ?_
        obtain ⟨v22, k23, h⟩ := it_b h
        refine kV_z (As := [.int l4]) (rest := []) (q := 0) hx_E hw (c_X1_hasCell l K N hN ad hI  l4 (sI (sI (sL (sL (sI (sI σ 5 ((2 : Int32) * l1).toNatClampNeg l2) 5 (((2 : Int32) * l1) + (1 : Int32)).toNatClampNeg l3) 3 l2.toNatClampNeg ((gL (sI (sI σ 5 ((2 : Int32) * l1).toNatClampNeg l2) 5 (((2 : Int32) * l1) + (1 : Int32)).toNatClampNeg l3) 3 l2.toNatClampNeg) ||| v13)) 3 l3.toNatClampNeg ((gL (sL (sI (sI σ 5 ((2 : Int32) * l1).toNatClampNeg l2) 5 (((2 : Int32) * l1) + (1 : Int32)).toNatClampNeg l3) 3 l2.toNatClampNeg ((gL (sI (sI σ 5 ((2 : Int32) * l1).toNatClampNeg l2) 5 (((2 : Int32) * l1) + (1 : Int32)).toNatClampNeg l3) 3 l2.toNatClampNeg) ||| v13)) 3 l3.toNatClampNeg) ||| v13)) 4 ((2 : Int32) * l1).toNatClampNeg l4) 4 (((2 : Int32) * l1) + (1 : Int32)).toNatClampNeg l5) k23) mi_X1_hasCell mv_X1_hasCell ml_X1_71 (Nat.lt_of_lt_of_le (by decide) hN) rfl rfl rfl ⟨⟨Nat.le_of_ble_eq_true rfl, Nat.le_of_ble_eq_true rfl⟩, rfl, rfl⟩ ⟨Nat.zero_le _, Nat.zero_le _⟩ hl.1 rfl (Nat.le_of_ble_eq_true rfl) dX1_layEdge_97 (fun z24 H locs hw => ?_)
        obtain ⟨φ28, h9, h_φ28⟩ := it_b h
        have hJ27 : ∀ (σ26 : vSt), σ26 = φ28 → ∀ (H : Heap) (locs : List Loc) (ls : Array Slot), PW K N ad (cC K ad) A s.heap σ26 H locs → lv_has ls 8 [(0, .ref (ad 0)), (5, .int l5), (6, .long v13)] → W p l e (rmF 2 21) s m args below meth c H locs 0 0 Q (F0 m 115 ls []) := by
          intro σ26 e9 H locs ls hw hl
          subst e9
          replace h := h_φ28
          refine lv_aload_n hx hb dX1_layEdge_115 rfl (lv_at hl 0 rfl) ?_
          refine lv_iload hx hb dX1_layEdge_116 (lv_at hl 1 rfl) ?_
          obtain ⟨v31, k32, h⟩ := it_b h
          refine kV_z (As := [.int l5]) (rest := []) (q := 0) hx_E hw (c_X1_hasCell l K N hN ad hI  l5 σ26 k32) mi_X1_hasCell mv_X1_hasCell ml_X1_71 (Nat.lt_of_lt_of_le (by decide) hN) rfl rfl rfl ⟨⟨Nat.le_of_ble_eq_true rfl, Nat.le_of_ble_eq_true rfl⟩, rfl, rfl⟩ ⟨Nat.zero_le _, Nat.zero_le _⟩ hl.1 rfl (Nat.le_of_ble_eq_true rfl) dX1_layEdge_118 (fun z33 H locs hw => ?_)
          refine lv_if_eq (tgt := 136) hx hb dX1_layEdge_121 (by decide) (fun c34 => ?_) (fun c34 => ?_)
          · replace h := it_t c34 h
            exact hE hw (Option.some.inj h) dX1_layEdge_136
          · replace h := it_f c34 h
            refine lv_aload_n hx hb dX1_layEdge_124 rfl (lv_at hl 0 rfl) ?_
            refine gC_0_1 hx_E hw hN fl_X1_15 dX1_layEdge_125 ?_
            refine lv_iload hx hb dX1_layEdge_128 (lv_at hl 1 rfl) ?_
            refine lv_dup2_11 hx hb dX1_layEdge_130 rfl rfl ?_
            obtain ⟨g35, h⟩ := it_g h
            refine aC_2 hx_E hw hN g35 dX1_layEdge_131 ?_
            refine lv_lload hx hb dX1_layEdge_132 (lv_at hl 2 rfl) ?_
            refine lv_lor hx hb dX1_layEdge_134 ?_
            obtain ⟨g36, h⟩ := it_g h
            refine sC_2 hx_E hw hN g36 dX1_layEdge_135 (fun H locs hw => ?_)
            exact hE hw (Option.some.inj h) dX1_layEdge_136
        replace h := h9
        refine lv_if_eq (tgt := 115) hx hb dX1_layEdge_100 (by decide) (fun c25 => ?_) (fun c25 => ?_)
        · replace h := it_t c25 h
          have e9 := Option.some.inj h
          subst e9
          exact hJ27 _ rfl  H locs ls hw (lv_sub hl [1, 6, 0] rfl)
        · replace h := it_f c25 h
          refine lv_aload_n hx hb dX1_layEdge_103 rfl (lv_at hl 1 rfl) ?_
          refine gC_0_1 hx_E hw hN fl_X1_15 dX1_layEdge_104 ?_
          refine lv_iload hx hb dX1_layEdge_107 (lv_at hl 5 rfl) ?_
          refine lv_dup2_11 hx hb dX1_layEdge_109 rfl rfl ?_
          obtain ⟨g29, h⟩ := it_g h
          refine aC_2 hx_E hw hN g29 dX1_layEdge_110 ?_
          refine lv_lload hx hb dX1_layEdge_111 (lv_at hl 0 rfl) ?_
          refine lv_lor hx hb dX1_layEdge_113 ?_
          obtain ⟨g30, h⟩ := it_g h
          refine sC_2 hx_E hw hN g30 dX1_layEdge_114 (fun H locs hw => ?_)
          have e9 := Option.some.inj h
          subst e9
          exact hJ27 _ rfl  H locs ls hw (lv_sub hl [1, 6, 0] rfl)
      · replace h := it_t c12 h
        exact hE hw (Option.some.inj h) dX1_layEdge_24
set_option maxHeartbeats 4000000 in
set_option maxRecDepth 100000 in
theorem c_X1_layEdgesFrom (l : Launch) (K : vK) (N : Nat) (hN : 6 ≤ N) (ad : Nat → Nat) (hI : adInj N ad) (l1 : Int32) (l2 : Int32) (σ : vSt) {σ' : vSt} (h : f_X1_layEdgesFrom l1 l2 σ = some σ') : MCv l yX1_layEdgesFrom (wsY yX1_layEdgesFrom cX1_layEdgesFrom 6 none) (rmF 3 48) K N ad (cC K ad) [.ref (ad 0), .int l1, .int l2] σ σ' := by
  refine MCv_of (own := RX1) (plainFor_of_name (by decide)) hI rfl (Nat.le_of_ble_eq_true rfl) ?_
  intro p e s m args below meth c A Q hx_E hE H locs ls hw hl
  have hx := hx_E.1; have hb := hx_E.2.1; have hown := hx_E.2.2.2.1; have hts := hx_E.2.2.2.2.1
  replace hl : lv_has ls 6 [(0, .ref (ad 0)), (1, .int l1), (2, .int l2)] := hl
  unfold f_X1_layEdgesFrom at h
  refine lv_iload_n hx hb dX1_layEdgesFrom_0 rfl (lv_at hl 1 rfl) ?_
  refine lv_aload_n hx hb dX1_layEdgesFrom_1 rfl (lv_at hl 0 rfl) ?_
  refine gC_0_5 hx_E hw hN fl_X1_47 dX1_layEdgesFrom_2 ?_
  refine lv_iconst (v := 1) hx hb dX1_layEdgesFrom_5 (by decide) ?_
  refine lv_iadd hx hb dX1_layEdgesFrom_6 ?_
  refine lv_imul hx hb dX1_layEdgesFrom_7 ?_
  refine lv_iload_n hx hb dX1_layEdgesFrom_8 rfl (lv_at hl 2 rfl) ?_
  refine lv_iadd hx hb dX1_layEdgesFrom_9 ?_
  obtain ⟨v1, e_v1, h⟩ := it_b h
  refine lt_topi (Option.some.inj e_v1) ?_
  refine lv_istore_n (lv' := [(3, .int v1), (0, .ref (ad 0)), (1, .int l1), (2, .int l2)]) hx hb dX1_layEdgesFrom_10 rfl hl (by decide) rfl (fun ls hl => ?_)
  refine lv_aload_n hx hb dX1_layEdgesFrom_11 rfl (lv_at hl 1 rfl) ?_
  refine lv_iload_n hx hb dX1_layEdgesFrom_12 rfl (lv_at hl 2 rfl) ?_
  refine lv_iload_n hx hb dX1_layEdgesFrom_13 rfl (lv_at hl 3 rfl) ?_
  obtain ⟨v2, k3, h⟩ := it_b h
  refine kV_i (As := [.int l1, .int l2]) (rest := []) (q := 0) hx_E hw (c_X1_cellAt l K N hN ad hI  l1 l2 σ k3) mi_X1_cellAt mv_X1_cellAt ml_X1_57 (Nat.lt_of_lt_of_le (by decide) hN) rfl rfl rfl ⟨⟨Nat.le_of_ble_eq_true rfl, Nat.le_of_ble_eq_true rfl⟩, rfl, rfl⟩ ⟨Nat.zero_le _, Nat.zero_le _⟩ hl.1 rfl (Nat.le_of_ble_eq_true rfl) dX1_layEdgesFrom_14 (fun H locs hw => ?_)
  refine lv_istore (lv' := [(4, .int v2), (3, .int v1), (0, .ref (ad 0)), (1, .int l1), (2, .int l2)]) hx hb dX1_layEdgesFrom_17 hl (by decide) rfl (fun ls hl => ?_)
  refine lv_iload_n hx hb dX1_layEdgesFrom_19 rfl (lv_at hl 4 rfl) ?_
  refine lv_aload_n hx hb dX1_layEdgesFrom_20 rfl (lv_at hl 2 rfl) ?_
  refine gC_0_5 hx_E hw hN fl_X1_47 dX1_layEdgesFrom_21 ?_
  obtain ⟨φ7, h9, h_φ7⟩ := it_b h
  have hJ6 : ∀ (σ5 : vSt), σ5 = φ7 → ∀ (H : Heap) (locs : List Loc) (ls : Array Slot), PW K N ad (cC K ad) A s.heap σ5 H locs → lv_has ls 6 [(0, .ref (ad 0)), (1, .int l1), (2, .int l2), (3, .int v1), (4, .int v2)] → W p l e (rmF 3 48) s m args below meth c H locs 0 0 Q (F0 m 53 ls []) := by
    intro σ5 e9 H locs ls hw hl
    subst e9
    replace h := h_φ7
    refine lv_iload_n hx hb dX1_layEdgesFrom_53 rfl (lv_at hl 1 rfl) ?_
    refine lv_aload_n hx hb dX1_layEdgesFrom_54 rfl (lv_at hl 0 rfl) ?_
    refine gC_0_6 hx_E hw hN fl_X1_50 dX1_layEdgesFrom_55 ?_
    refine lv_icmp_ge (tgt := 101) hx hb dX1_layEdgesFrom_58 (by decide) (fun c12 => ?_) (fun c12 => ?_)
    · replace h := it_t c12 h
      exact hE hw (Option.some.inj h) dX1_layEdgesFrom_101
    · replace h := it_f c12 h
      refine lv_aload_n hx hb dX1_layEdgesFrom_61 rfl (lv_at hl 0 rfl) ?_
      refine gC_0_6 hx_E hw hN fl_X1_50 dX1_layEdgesFrom_62 ?_
      refine lv_iconst (v := 1) hx hb dX1_layEdgesFrom_65 (by decide) ?_
      refine lv_iadd hx hb dX1_layEdgesFrom_66 ?_
      refine lv_aload_n hx hb dX1_layEdgesFrom_67 rfl (lv_at hl 0 rfl) ?_
      refine gC_0_5 hx_E hw hN fl_X1_47 dX1_layEdgesFrom_68 ?_
      refine lv_imul hx hb dX1_layEdgesFrom_71 ?_
      refine lv_iload_n hx hb dX1_layEdgesFrom_72 rfl (lv_at hl 3 rfl) ?_
      refine lv_iadd hx hb dX1_layEdgesFrom_73 ?_
      obtain ⟨v13, e_v13, h⟩ := it_b h
      refine lt_topi (Option.some.inj e_v13) ?_
      refine lv_istore (lv' := [(5, .int v13), (0, .ref (ad 0)), (1, .int l1), (2, .int l2), (3, .int v1), (4, .int v2)]) hx hb dX1_layEdgesFrom_74 hl (by decide) rfl (fun ls hl => ?_)
      refine lv_aload_n hx hb dX1_layEdgesFrom_76 rfl (lv_at hl 1 rfl) ?_
      refine lv_iload hx hb dX1_layEdgesFrom_77 (lv_at hl 0 rfl) ?_
      refine lv_iload_n hx hb dX1_layEdgesFrom_79 rfl (lv_at hl 4 rfl) ?_
      refine lv_iload_n hx hb dX1_layEdgesFrom_80 rfl (lv_at hl 4 rfl) ?_
      refine lv_aload_n hx hb dX1_layEdgesFrom_81 rfl (lv_at hl 1 rfl) ?_
      refine gC_0_5 hx_E hw hN fl_X1_47 dX1_layEdgesFrom_82 ?_
      refine lv_iadd hx hb dX1_layEdgesFrom_85 ?_
      refine lv_iconst (v := 1) hx hb dX1_layEdgesFrom_86 (by decide) ?_
      refine lv_iadd hx hb dX1_layEdgesFrom_87 ?_
      refine lv_aload_n hx hb dX1_layEdgesFrom_88 rfl (lv_at hl 1 rfl) ?_
      refine lv_iload_n hx hb dX1_layEdgesFrom_89 rfl (lv_at hl 2 rfl) ?_
      refine lv_iload_n hx hb dX1_layEdgesFrom_90 rfl (lv_at hl 3 rfl) ?_
      refine lv_iconst (v := 1) hx hb dX1_layEdgesFrom_91 (by decide) ?_
      refine lv_isub hx hb dX1_layEdgesFrom_92 ?_
      obtain ⟨v14, k15, h⟩ := it_b h
      refine kV_i (As := [.int l1, .int (l2 - (1 : Int32))]) (rest := [.int ((v1 + (gI σ5 0 5)) + (1 : Int32)), .int v1, .int v13, .ref (ad 0)]) (q := 0) hx_E hw (c_X1_cellAt l K N hN ad hI  l1 (l2 - (1 : Int32)) σ5 k15) mi_X1_cellAt mv_X1_cellAt ml_X1_57 (Nat.lt_of_lt_of_le (by decide) hN) rfl rfl rfl ⟨⟨Nat.le_of_ble_eq_true rfl, Nat.le_of_ble_eq_true rfl⟩, rfl, rfl⟩ ⟨Nat.zero_le _, Nat.zero_le _⟩ hl.1 rfl (Nat.le_of_ble_eq_true rfl) dX1_layEdgesFrom_93 (fun H locs hw => ?_)
      refine lv_iload hx hb dX1_layEdgesFrom_96 (lv_at hl 5 rfl) ?_
      obtain ⟨σ16, k17, h⟩ := it_b h
      refine kV_v (As := [.int v13, .int v1, .int ((v1 + (gI σ5 0 5)) + (1 : Int32)), .int v14, .int v2]) (rest := []) (q := 0) hx_E hw (c_X1_layEdge l K N hN ad hI  v13 v1 ((v1 + (gI σ5 0 5)) + (1 : Int32)) v14 v2 σ5 k17) mi_X1_layEdge mv_X1_layEdge ml_X1_60 (Nat.lt_of_lt_of_le (by decide) hN) rfl rfl rfl ⟨⟨Nat.le_of_ble_eq_true rfl, Nat.le_of_ble_eq_true rfl⟩, rfl, rfl⟩ ⟨Nat.zero_le _, Nat.zero_le _⟩ hl.1 rfl (Nat.le_of_ble_eq_true rfl) dX1_layEdgesFrom_98 (fun H locs hw => ?_)
      exact hE hw (Option.some.inj h) dX1_layEdgesFrom_101
  replace h := h9
  refine lv_icmp_ge (tgt := 53) hx hb dX1_layEdgesFrom_24 (by decide) (fun c4 => ?_) (fun c4 => ?_)
  · replace h := it_t c4 h
    have e9 := Option.some.inj h
    subst e9
    exact hJ6 _ rfl  H locs ls hw (lv_sub hl [2, 3, 4, 1, 0] rfl)
  · replace h := it_f c4 h
    refine lv_aload_n hx hb dX1_layEdgesFrom_27 rfl (lv_at hl 2 rfl) ?_
    refine lv_iload_n hx hb dX1_layEdgesFrom_28 rfl (lv_at hl 3 rfl) ?_
    refine lv_aload_n hx hb dX1_layEdgesFrom_29 rfl (lv_at hl 2 rfl) ?_
    refine gC_0_5 hx_E hw hN fl_X1_47 dX1_layEdgesFrom_30 ?_
    refine lv_imul hx hb dX1_layEdgesFrom_33 ?_
    refine lv_iload_n hx hb dX1_layEdgesFrom_34 rfl (lv_at hl 4 rfl) ?_
    refine lv_iadd hx hb dX1_layEdgesFrom_35 ?_
    refine lv_iload_n hx hb dX1_layEdgesFrom_36 rfl (lv_at hl 1 rfl) ?_
    refine lv_iload_n hx hb dX1_layEdgesFrom_37 rfl (lv_at hl 1 rfl) ?_
    refine lv_iconst (v := 1) hx hb dX1_layEdgesFrom_38 (by decide) ?_
    refine lv_iadd hx hb dX1_layEdgesFrom_39 ?_
    refine lv_aload_n hx hb dX1_layEdgesFrom_40 rfl (lv_at hl 2 rfl) ?_
    refine lv_iload_n hx hb dX1_layEdgesFrom_41 rfl (lv_at hl 3 rfl) ?_
    refine lv_iconst (v := 1) hx hb dX1_layEdgesFrom_42 (by decide) ?_
    refine lv_isub hx hb dX1_layEdgesFrom_43 ?_
    refine lv_iload_n hx hb dX1_layEdgesFrom_44 rfl (lv_at hl 4 rfl) ?_
    obtain ⟨v8, k9, h⟩ := it_b h
    refine kV_i (As := [.int (l1 - (1 : Int32)), .int l2]) (rest := [.int (v1 + (1 : Int32)), .int v1, .int ((l1 * (gI σ 0 5)) + l2), .ref (ad 0)]) (q := 0) hx_E hw (c_X1_cellAt l K N hN ad hI  (l1 - (1 : Int32)) l2 σ k9) mi_X1_cellAt mv_X1_cellAt ml_X1_57 (Nat.lt_of_lt_of_le (by decide) hN) rfl rfl rfl ⟨⟨Nat.le_of_ble_eq_true rfl, Nat.le_of_ble_eq_true rfl⟩, rfl, rfl⟩ ⟨Nat.zero_le _, Nat.zero_le _⟩ hl.1 rfl (Nat.le_of_ble_eq_true rfl) dX1_layEdgesFrom_45 (fun H locs hw => ?_)
    refine lv_iload hx hb dX1_layEdgesFrom_48 (lv_at hl 0 rfl) ?_
    obtain ⟨σ10, k11, h⟩ := it_b h
    refine kV_v (As := [.int ((l1 * (gI σ 0 5)) + l2), .int v1, .int (v1 + (1 : Int32)), .int v8, .int v2]) (rest := []) (q := 0) hx_E hw (c_X1_layEdge l K N hN ad hI  ((l1 * (gI σ 0 5)) + l2) v1 (v1 + (1 : Int32)) v8 v2 σ k11) mi_X1_layEdge mv_X1_layEdge ml_X1_60 (Nat.lt_of_lt_of_le (by decide) hN) rfl rfl rfl ⟨⟨Nat.le_of_ble_eq_true rfl, Nat.le_of_ble_eq_true rfl⟩, rfl, rfl⟩ ⟨Nat.zero_le _, Nat.zero_le _⟩ hl.1 rfl (Nat.le_of_ble_eq_true rfl) dX1_layEdgesFrom_50 (fun H locs hw => ?_)
    have e9 := Option.some.inj h
    subst e9
    exact hJ6 _ rfl  H locs ls hw (lv_sub hl [2, 3, 4, 1, 0] rfl)
set_option maxHeartbeats 4000000 in
set_option maxRecDepth 100000 in
theorem c_X1_lay (l : Launch) (K : vK) (N : Nat) (hN : 6 ≤ N) (ad : Nat → Nat) (hI : adInj N ad) (l1 : Int32) (l2 : Int32) (σ : vSt) {σ' : vSt} (h : f_X1_lay l1 l2 σ = some σ') : MCv l yX1_lay (wsY yX1_lay cX1_lay 5 none) (rmF 4 73) K N ad (cC K ad) [.ref (ad 0), .int l1, .int l2] σ σ' := by
  refine MCv_of (own := RX1) (plainFor_of_name (by decide)) hI rfl (Nat.le_of_ble_eq_true rfl) ?_
  intro p e s m args below meth c A Q hx_E hE H locs ls hw hl
  have hx := hx_E.1; have hb := hx_E.2.1; have hown := hx_E.2.2.2.1; have hts := hx_E.2.2.2.2.1
  replace hl : lv_has ls 5 [(0, .ref (ad 0)), (1, .int l1), (2, .int l2)] := hl
  unfold f_X1_lay at h
  refine lv_aload_n hx hb dX1_lay_0 rfl (lv_at hl 0 rfl) ?_
  refine lv_iconst (v := 1) hx hb dX1_lay_1 (by decide) ?_
  refine lv_iconst (v := 4) hx hb dX1_lay_2 (by decide) ?_
  refine lv_iload_n hx hb dX1_lay_3 rfl (lv_at hl 1 rfl) ?_
  obtain ⟨v1, k2, h⟩ := it_b h
  refine kS_i (As := [.int (4 : Int32), .int l1]) (rest := [.int (1 : Int32), .ref (ad 0)]) hx_E hw (c_J9_min_7cf53 l K (4 : Int32) l1 k2) mi_J9_min_7cf53 sm_J9_min_7cf53 ml_X1_38 rfl ⟨⟨Nat.le_of_ble_eq_true rfl, Nat.le_of_ble_eq_true rfl⟩, rfl, rfl⟩ ⟨Nat.zero_le _, Nat.zero_le _⟩ hl.1 rfl (Nat.le_of_ble_eq_true rfl) dX1_lay_4 (fun H locs hw => ?_)
  obtain ⟨v3, k4, h⟩ := it_b h
  refine kS_i (As := [.int (1 : Int32), .int v1]) (rest := [.ref (ad 0)]) hx_E hw (c_J9_max_7cf53 l K (1 : Int32) v1 k4) mi_J9_max_7cf53 sm_J9_max_7cf53 ml_X1_44 rfl ⟨⟨Nat.le_of_ble_eq_true rfl, Nat.le_of_ble_eq_true rfl⟩, rfl, rfl⟩ ⟨Nat.zero_le _, Nat.zero_le _⟩ hl.1 rfl (Nat.le_of_ble_eq_true rfl) dX1_lay_7 (fun H locs hw => ?_)
  refine pC_0_5 hx_E hw hN fl_X1_47 dX1_lay_10 (fun H locs hw => ?_)
  refine lv_aload_n hx hb dX1_lay_13 rfl (lv_at hl 0 rfl) ?_
  refine lv_iconst (v := 1) hx hb dX1_lay_14 (by decide) ?_
  refine lv_iconst (v := 4) hx hb dX1_lay_15 (by decide) ?_
  refine lv_iload_n hx hb dX1_lay_16 rfl (lv_at hl 2 rfl) ?_
  obtain ⟨v5, k6, h⟩ := it_b h
  refine kS_i (As := [.int (4 : Int32), .int l2]) (rest := [.int (1 : Int32), .ref (ad 0)]) hx_E hw (c_J9_min_7cf53 l K (4 : Int32) l2 k6) mi_J9_min_7cf53 sm_J9_min_7cf53 ml_X1_38 rfl ⟨⟨Nat.le_of_ble_eq_true rfl, Nat.le_of_ble_eq_true rfl⟩, rfl, rfl⟩ ⟨Nat.zero_le _, Nat.zero_le _⟩ hl.1 rfl (Nat.le_of_ble_eq_true rfl) dX1_lay_17 (fun H locs hw => ?_)
  obtain ⟨v7, k8, h⟩ := it_b h
  refine kS_i (As := [.int (1 : Int32), .int v5]) (rest := [.ref (ad 0)]) hx_E hw (c_J9_max_7cf53 l K (1 : Int32) v5 k8) mi_J9_max_7cf53 sm_J9_max_7cf53 ml_X1_44 rfl ⟨⟨Nat.le_of_ble_eq_true rfl, Nat.le_of_ble_eq_true rfl⟩, rfl, rfl⟩ ⟨Nat.zero_le _, Nat.zero_le _⟩ hl.1 rfl (Nat.le_of_ble_eq_true rfl) dX1_lay_20 (fun H locs hw => ?_)
  refine pC_0_6 hx_E hw hN fl_X1_50 dX1_lay_23 (fun H locs hw => ?_)
  refine lv_aload_n hx hb dX1_lay_26 rfl (lv_at hl 0 rfl) ?_
  refine lv_aload_n hx hb dX1_lay_27 rfl (lv_at hl 0 rfl) ?_
  refine gC_0_5 hx_E hw hN fl_X1_47 dX1_lay_28 ?_
  refine lv_aload_n hx hb dX1_lay_31 rfl (lv_at hl 0 rfl) ?_
  refine gC_0_6 hx_E hw hN fl_X1_50 dX1_lay_32 ?_
  refine lv_imul hx hb dX1_lay_35 ?_
  refine pC_0_7 hx_E hw hN fl_X1_28 dX1_lay_36 (fun H locs hw => ?_)
  refine lv_aload_n hx hb dX1_lay_39 rfl (lv_at hl 0 rfl) ?_
  refine lv_aload_n hx hb dX1_lay_40 rfl (lv_at hl 0 rfl) ?_
  refine gC_0_5 hx_E hw hN fl_X1_47 dX1_lay_41 ?_
  refine lv_iconst (v := 1) hx hb dX1_lay_44 (by decide) ?_
  refine lv_iadd hx hb dX1_lay_45 ?_
  refine lv_aload_n hx hb dX1_lay_46 rfl (lv_at hl 0 rfl) ?_
  refine gC_0_6 hx_E hw hN fl_X1_50 dX1_lay_47 ?_
  refine lv_iconst (v := 1) hx hb dX1_lay_50 (by decide) ?_
  refine lv_iadd hx hb dX1_lay_51 ?_
  refine lv_imul hx hb dX1_lay_52 ?_
  refine pC_0_8 hx_E hw hN fl_X1_32 dX1_lay_53 (fun H locs hw => ?_)
  refine lv_aload_n hx hb dX1_lay_56 rfl (lv_at hl 0 rfl) ?_
  refine lv_aload_n hx hb dX1_lay_57 rfl (lv_at hl 0 rfl) ?_
  refine gC_0_6 hx_E hw hN fl_X1_50 dX1_lay_58 ?_
  refine lv_iconst (v := 1) hx hb dX1_lay_61 (by decide) ?_
  refine lv_iadd hx hb dX1_lay_62 ?_
  refine lv_aload_n hx hb dX1_lay_63 rfl (lv_at hl 0 rfl) ?_
  refine gC_0_5 hx_E hw hN fl_X1_47 dX1_lay_64 ?_
  refine lv_imul hx hb dX1_lay_67 ?_
  refine lv_aload_n hx hb dX1_lay_68 rfl (lv_at hl 0 rfl) ?_
  refine gC_0_6 hx_E hw hN fl_X1_50 dX1_lay_69 ?_
  refine lv_aload_n hx hb dX1_lay_72 rfl (lv_at hl 0 rfl) ?_
  refine gC_0_5 hx_E hw hN fl_X1_47 dX1_lay_73 ?_
  refine lv_iconst (v := 1) hx hb dX1_lay_76 (by decide) ?_
  refine lv_iadd hx hb dX1_lay_77 ?_
  refine lv_imul hx hb dX1_lay_78 ?_
  refine lv_iadd hx hb dX1_lay_79 ?_
  refine pC_0_9 hx_E hw hN fl_X1_35 dX1_lay_80 (fun H locs hw => ?_)
  refine lv_iconst (v := 0) hx hb dX1_lay_83 (by decide) ?_
  refine lv_istore_n (lv' := [(3, .int (0 : Int32)), (0, .ref (ad 0)), (1, .int l1), (2, .int l2)]) hx hb dX1_lay_84 rfl hl (by decide) rfl (fun ls hl => ?_)
  obtain ⟨σ9, e_σ9, h⟩ := it_b h
  replace hw := PW_cast (Option.some.inj e_σ9) hw
  obtain ⟨φ15, h9, h_φ15⟩ := it_b h
  have hJ14 : ∀ (σ12 : vSt), σ12 = φ15 → ∀ (H : Heap) (locs : List Loc) (ls : Array Slot), PW K N ad (cC K ad) A s.heap σ12 H locs → lv_has ls 5 [(0, .ref (ad 0))] → W p l e (rmF 4 73) s m args below meth c H locs 0 0 Q (F0 m 111 ls []) := by
    intro σ12 e9 H locs ls hw hl
    subst e9
    replace h := h_φ15
    refine lv_iconst (v := 0) hx hb dX1_lay_111 (by decide) ?_
    refine lv_istore_n (lv' := [(3, .int (0 : Int32)), (0, .ref (ad 0))]) hx hb dX1_lay_112 rfl hl (by decide) rfl (fun ls hl => ?_)
    obtain ⟨φ24, h9, h_φ24⟩ := it_b h
    have hJ23 : ∀ (σ21 : vSt), σ21 = φ24 → ∀ (H : Heap) (locs : List Loc) (ls : Array Slot), PW K N ad (cC K ad) A s.heap σ21 H locs → lv_has ls 5 [(0, .ref (ad 0))] → W p l e (rmF 4 73) s m args below meth c H locs 0 0 Q (F0 m 132 ls []) := by
      intro σ21 e9 H locs ls hw hl
      subst e9
      replace h := h_φ24
      refine lv_iconst (v := 0) hx hb dX1_lay_132 (by decide) ?_
      refine lv_istore_n (lv' := [(3, .int (0 : Int32)), (0, .ref (ad 0))]) hx hb dX1_lay_133 rfl hl (by decide) rfl (fun ls hl => ?_)
      obtain ⟨φ32, h9, h_φ32⟩ := it_b h
      have hJ31 : ∀ (σ29 : vSt), σ29 = φ32 → ∀ (H : Heap) (locs : List Loc) (ls : Array Slot), PW K N ad (cC K ad) A s.heap σ29 H locs → lv_has ls 5 [] → W p l e (rmF 4 73) s m args below meth c H locs 0 0 Q (F0 m 173 ls []) := by
        intro σ29 e9 H locs ls hw hl
        subst e9
        replace h := h_φ32
        exact hE hw (Option.some.inj h) dX1_lay_173
      have hL30 : ∀ (n9 : Nat) (v27 : Int32) (σ28 : vSt), ∀ (H : Heap) (locs : List Loc) (ls : Array Slot), f_X1_lay_134  n9 v27 σ28 = some φ32 → PW K N ad (cC K ad) A s.heap σ28 H locs → lv_has ls 5 [(0, .ref (ad 0)), (3, .int v27)] → W p l e (rmF 4 73) s m args below meth c H locs 0 0 Q (F0 m 134 ls []) := by
        intro n9
        induction n9 with
        | zero => intro v27 σ28 H locs ls h hw hl; rw [f_X1_lay_134.eq_1] at h; exact it_n h
        | succ n9 ih =>
          intro v27 σ28 H locs ls h hw hl
          rw [f_X1_lay_134.eq_2] at h
          refine lv_iload_n hx hb dX1_lay_134 rfl (lv_at hl 1 rfl) ?_
          refine lv_aload_n hx hb dX1_lay_135 rfl (lv_at hl 0 rfl) ?_
          refine gC_0_6 hx_E hw hN fl_X1_50 dX1_lay_136 ?_
          refine lv_icmp_gt (tgt := 173) hx hb dX1_lay_139 (by decide) (fun c33 => ?_) (fun c33 => ?_)
          · replace h := it_t c33 h
            have e9 := Option.some.inj h
            subst e9
            exact hJ31 _ rfl  H locs ls hw (lv_sub hl [] rfl)
          · replace h := it_f c33 h
            refine lv_iconst (v := 0) hx hb dX1_lay_142 (by decide) ?_
            refine lv_istore (lv' := [(4, .int (0 : Int32)), (0, .ref (ad 0)), (3, .int v27)]) hx hb dX1_lay_143 hl (by decide) rfl (fun ls hl => ?_)
            obtain ⟨φ40, h9, h_φ40⟩ := it_b h
            have hJ39 : ∀ (σ36 : vSt), σ36 = φ40 → ∀ (H : Heap) (locs : List Loc) (ls : Array Slot), PW K N ad (cC K ad) A s.heap σ36 H locs → lv_has ls 5 [(0, .ref (ad 0)), (3, .int v27)] → W p l e (rmF 4 73) s m args below meth c H locs 0 0 Q (F0 m 167 ls []) := by
              intro σ36 e9 H locs ls hw hl
              subst e9
              replace h := h_φ40
              refine lv_iinc (v := (v27 + 1)) (lv' := [(3, .int (v27 + 1)), (0, .ref (ad 0))]) hx hb dX1_lay_167 hl (k := 1) rfl rfl (by decide) rfl (fun ls hl => ?_)
              refine lv_goto (tgt := 134) hx hb dX1_lay_170 (by decide) ?_
              exact ih _ _  H locs ls h hw (lv_sub hl [1, 0] rfl)
            have hL38 : ∀ (n9 : Nat) (v34 : Int32) (σ35 : vSt), ∀ (H : Heap) (locs : List Loc) (ls : Array Slot), f_X1_lay_145x37 v27 n9 v34 σ35 = some φ40 → PW K N ad (cC K ad) A s.heap σ35 H locs → lv_has ls 5 [(0, .ref (ad 0)), (3, .int v27), (4, .int v34)] → W p l e (rmF 4 73) s m args below meth c H locs 0 0 Q (F0 m 145 ls []) := by
              intro n9
              induction n9 with
              | zero => intro v34 σ35 H locs ls h hw hl; rw [f_X1_lay_145x37.eq_1] at h; exact it_n h
              | succ n9 ih =>
                intro v34 σ35 H locs ls h hw hl
                rw [f_X1_lay_145x37.eq_2] at h
                refine lv_iload hx hb dX1_lay_145 (lv_at hl 2 rfl) ?_
                refine lv_aload_n hx hb dX1_lay_147 rfl (lv_at hl 0 rfl) ?_
                refine gC_0_5 hx_E hw hN fl_X1_47 dX1_lay_148 ?_
                refine lv_icmp_gt (tgt := 167) hx hb dX1_lay_151 (by decide) (fun c41 => ?_) (fun c41 => ?_)
                · replace h := it_t c41 h
                  have e9 := Option.some.inj h
                  subst e9
                  exact hJ39 _ rfl  H locs ls hw (lv_sub hl [0, 1] rfl)
                · replace h := it_f c41 h
                  refine lv_aload_n hx hb dX1_lay_154 rfl (lv_at hl 0 rfl) ?_
                  refine lv_iload_n hx hb dX1_lay_155 rfl (lv_at hl 1 rfl) ?_
                  refine lv_iload hx hb dX1_lay_156 (lv_at hl 2 rfl) ?_
                  obtain ⟨σ42, k43, h⟩ := it_b h
                  refine kV_v (As := [.int v27, .int v34]) (rest := []) (q := 0) hx_E hw (c_X1_layEdgesFrom l K N hN ad hI  v27 v34 σ35 k43) mi_X1_layEdgesFrom mv_X1_layEdgesFrom ml_X1_53 (Nat.lt_of_lt_of_le (by decide) hN) rfl rfl rfl ⟨⟨Nat.le_of_ble_eq_true rfl, Nat.le_of_ble_eq_true rfl⟩, rfl, rfl⟩ ⟨Nat.zero_le _, Nat.zero_le _⟩ hl.1 rfl (Nat.le_of_ble_eq_true rfl) dX1_lay_158 (fun H locs hw => ?_)
                  refine lv_iinc (v := (v34 + 1)) (lv' := [(4, .int (v34 + 1)), (0, .ref (ad 0)), (3, .int v27)]) hx hb dX1_lay_161 hl (k := 2) rfl rfl (by decide) rfl (fun ls hl => ?_)
                  refine lv_goto (tgt := 145) hx hb dX1_lay_164 (by decide) ?_
                  exact ih _ _  H locs ls h hw (lv_sub hl [1, 2, 0] rfl)
            exact hL38 600 _ _  H locs ls h9 hw (lv_sub hl [1, 2, 0] rfl)
      exact hL30 600 _ _  H locs ls h9 hw (lv_sub hl [1, 0] rfl)
    have hL22 : ∀ (n9 : Nat) (v19 : Int32) (σ20 : vSt), ∀ (H : Heap) (locs : List Loc) (ls : Array Slot), f_X1_lay_113  n9 v19 σ20 = some φ24 → PW K N ad (cC K ad) A s.heap σ20 H locs → lv_has ls 5 [(0, .ref (ad 0)), (3, .int v19)] → W p l e (rmF 4 73) s m args below meth c H locs 0 0 Q (F0 m 113 ls []) := by
      intro n9
      induction n9 with
      | zero => intro v19 σ20 H locs ls h hw hl; rw [f_X1_lay_113.eq_1] at h; exact it_n h
      | succ n9 ih =>
        intro v19 σ20 H locs ls h hw hl
        rw [f_X1_lay_113.eq_2] at h
        refine lv_iload_n hx hb dX1_lay_113 rfl (lv_at hl 1 rfl) ?_
        refine lv_bipush (v := 25) hx hb dX1_lay_114 (by decide) ?_
        refine lv_icmp_ge (tgt := 132) hx hb dX1_lay_116 (by decide) (fun c25 => ?_) (fun c25 => ?_)
        · replace h := it_t c25 h
          have e9 := Option.some.inj h
          subst e9
          exact hJ23 _ rfl  H locs ls hw (lv_sub hl [0] rfl)
        · replace h := it_f c25 h
          refine lv_aload_n hx hb dX1_lay_119 rfl (lv_at hl 0 rfl) ?_
          refine gC_0_2 hx_E hw hN fl_X1_19 dX1_lay_120 ?_
          refine lv_iload_n hx hb dX1_lay_123 rfl (lv_at hl 1 rfl) ?_
          refine lv_lconst (v := 0) hx hb dX1_lay_124 (by decide) ?_
          obtain ⟨g26, h⟩ := it_g h
          refine sC_3 hx_E hw hN g26 dX1_lay_125 (fun H locs hw => ?_)
          refine lv_iinc (v := (v19 + 1)) (lv' := [(3, .int (v19 + 1)), (0, .ref (ad 0))]) hx hb dX1_lay_126 hl (k := 1) rfl rfl (by decide) rfl (fun ls hl => ?_)
          refine lv_goto (tgt := 113) hx hb dX1_lay_129 (by decide) ?_
          exact ih _ _  H locs ls h hw (lv_sub hl [1, 0] rfl)
    exact hL22 600 _ _  H locs ls h9 hw (lv_sub hl [1, 0] rfl)
  have hL13 : ∀ (n9 : Nat) (v10 : Int32) (σ11 : vSt), ∀ (H : Heap) (locs : List Loc) (ls : Array Slot), f_X1_lay_85  n9 v10 σ11 = some φ15 → PW K N ad (cC K ad) A s.heap σ11 H locs → lv_has ls 5 [(0, .ref (ad 0)), (3, .int v10)] → W p l e (rmF 4 73) s m args below meth c H locs 0 0 Q (F0 m 85 ls []) := by
    intro n9
    induction n9 with
    | zero => intro v10 σ11 H locs ls h hw hl; rw [f_X1_lay_85.eq_1] at h; exact it_n h
    | succ n9 ih =>
      intro v10 σ11 H locs ls h hw hl
      rw [f_X1_lay_85.eq_2] at h
      refine lv_iload_n hx hb dX1_lay_85 rfl (lv_at hl 1 rfl) ?_
      refine lv_bipush (v := 16) hx hb dX1_lay_86 (by decide) ?_
      refine lv_icmp_ge (tgt := 111) hx hb dX1_lay_88 (by decide) (fun c16 => ?_) (fun c16 => ?_)
      · replace h := it_t c16 h
        have e9 := Option.some.inj h
        subst e9
        exact hJ14 _ rfl  H locs ls hw (lv_sub hl [0] rfl)
      · replace h := it_f c16 h
        refine lv_aload_n hx hb dX1_lay_91 rfl (lv_at hl 0 rfl) ?_
        refine gC_0_0 hx_E hw hN fl_X1_9 dX1_lay_92 ?_
        refine lv_iload_n hx hb dX1_lay_95 rfl (lv_at hl 1 rfl) ?_
        refine lv_iconst (v := -1) hx hb dX1_lay_96 (by decide) ?_
        obtain ⟨g17, h⟩ := it_g h
        refine sC_1 hx_E hw hN g17 dX1_lay_97 (fun H locs hw => ?_)
        refine lv_aload_n hx hb dX1_lay_98 rfl (lv_at hl 0 rfl) ?_
        refine gC_0_1 hx_E hw hN fl_X1_15 dX1_lay_99 ?_
        refine lv_iload_n hx hb dX1_lay_102 rfl (lv_at hl 1 rfl) ?_
        refine lv_lconst (v := 0) hx hb dX1_lay_103 (by decide) ?_
        obtain ⟨g18, h⟩ := it_g h
        refine sC_2 hx_E hw hN g18 dX1_lay_104 (fun H locs hw => ?_)
        refine lv_iinc (v := (v10 + 1)) (lv' := [(3, .int (v10 + 1)), (0, .ref (ad 0))]) hx hb dX1_lay_105 hl (k := 1) rfl rfl (by decide) rfl (fun ls hl => ?_)
        refine lv_goto (tgt := 85) hx hb dX1_lay_108 (by decide) ?_
        exact ih _ _  H locs ls h hw (lv_sub hl [1, 0] rfl)
  exact hL13 600 _ _  H locs ls h9 hw (lv_sub hl [1, 0] rfl)
set_option maxHeartbeats 4000000 in
set_option maxRecDepth 100000 in
theorem c_X6_forgetMade (l : Launch) (K : vK) (ad : Nat → Nat) (hI : adInj 30 ad) (σ : vSt) {σ' : vSt} (h : f_X6_forgetMade σ = some σ') : MCv l yX6_forgetMade (wsY yX6_forgetMade cX6_forgetMade 2 none) (rmF 1 0) K 30 ad (cC K ad) [.ref (ad 8)] σ σ' := by
  refine MCv_of (own := RX6) (plainFor_of_name (by decide)) hI rfl (Nat.le_of_ble_eq_true rfl) ?_
  intro p e s m args below meth c A Q hx_E hE H locs ls hw hl
  have hx := hx_E.1; have hb := hx_E.2.1; have hown := hx_E.2.2.2.1; have hts := hx_E.2.2.2.2.1
  replace hl : lv_has ls 2 [(0, .ref (ad 8))] := hl
  unfold f_X6_forgetMade at h
  refine lv_iconst (v := 0) hx hb dX6_forgetMade_0 (by decide) ?_
  refine lv_istore_n (lv' := [(1, .int (0 : Int32)), (0, .ref (ad 8))]) hx hb dX6_forgetMade_1 rfl hl (by decide) rfl (fun ls hl => ?_)
  obtain ⟨φ6, h9, h_φ6⟩ := it_b h
  have hJ5 : ∀ (σ3 : vSt), σ3 = φ6 → ∀ (H : Heap) (locs : List Loc) (ls : Array Slot), PW K 30 ad (cC K ad) A s.heap σ3 H locs → lv_has ls 2 [] → W p l e (rmF 1 0) s m args below meth c H locs 0 0 Q (F0 m 21 ls []) := by
    intro σ3 e9 H locs ls hw hl
    subst e9
    replace h := h_φ6
    exact hE hw (Option.some.inj h) dX6_forgetMade_21
  have hL4 : ∀ (n9 : Nat) (v1 : Int32) (σ2 : vSt), ∀ (H : Heap) (locs : List Loc) (ls : Array Slot), f_X6_forgetMade_2  n9 v1 σ2 = some φ6 → PW K 30 ad (cC K ad) A s.heap σ2 H locs → lv_has ls 2 [(0, .ref (ad 8)), (1, .int v1)] → W p l e (rmF 1 0) s m args below meth c H locs 0 0 Q (F0 m 2 ls []) := by
    intro n9
    induction n9 with
    | zero => intro v1 σ2 H locs ls h hw hl; rw [f_X6_forgetMade_2.eq_1] at h; exact it_n h
    | succ n9 ih =>
      intro v1 σ2 H locs ls h hw hl
      rw [f_X6_forgetMade_2.eq_2] at h
      refine lv_iload_n hx hb dX6_forgetMade_2 rfl (lv_at hl 1 rfl) ?_
      refine lv_bipush (v := 8) hx hb dX6_forgetMade_3 (by decide) ?_
      refine lv_icmp_ge (tgt := 21) hx hb dX6_forgetMade_5 (by decide) (fun c7 => ?_) (fun c7 => ?_)
      · replace h := it_t c7 h
        have e9 := Option.some.inj h
        subst e9
        exact hJ5 _ rfl  H locs ls hw (lv_sub hl [] rfl)
      · replace h := it_f c7 h
        refine lv_aload_n hx hb dX6_forgetMade_8 rfl (lv_at hl 0 rfl) ?_
        refine gC_8_6 hx_E hw fl_X6_65 dX6_forgetMade_9 ?_
        refine lv_iload_n hx hb dX6_forgetMade_12 rfl (lv_at hl 1 rfl) ?_
        refine lv_iconst (v := 0) hx hb dX6_forgetMade_13 (by decide) ?_
        obtain ⟨g8, h⟩ := it_g h
        refine sC_9 hx_E hw g8 dX6_forgetMade_14 (fun H locs hw => ?_)
        refine lv_iinc (v := (v1 + 1)) (lv' := [(1, .int (v1 + 1)), (0, .ref (ad 8))]) hx hb dX6_forgetMade_15 hl (k := 1) rfl rfl (by decide) rfl (fun ls hl => ?_)
        refine lv_goto (tgt := 2) hx hb dX6_forgetMade_18 (by decide) ?_
        exact ih _ _  H locs ls h hw (lv_sub hl [1, 0] rfl)
  exact hL4 600 _ _  H locs ls h9 hw (lv_sub hl [1, 0] rfl)
