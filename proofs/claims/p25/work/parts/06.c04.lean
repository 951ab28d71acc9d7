set_option maxHeartbeats 4000000 in
set_option maxRecDepth 100000 in
theorem c_X6_hint (l : Launch) (K : vK) (ad : Nat → Nat) (hI : adInj 30 ad) (l1 : Int32) (σ : vSt) {r : Int32} {σ' : vSt} (h : f_X6_hint l1 σ = some (r, σ')) : MCi l yX6_hint (wsY yX6_hint cX6_hint 2 (some .int)) (rmF 6 121) K 30 ad (cC K ad) [.ref (ad 8), .int l1] σ r σ' := by
  refine MCi_of (own := RX6) (plainFor_of_name (by decide)) hI rfl (Nat.le_of_ble_eq_true rfl) ?_
  intro p e s m args below meth c A Q hx_E hE H locs ls hw hl
  have hx := hx_E.1; have hb := hx_E.2.1; have hown := hx_E.2.2.2.1; have hts := hx_E.2.2.2.2.1
  replace hl : lv_has ls 2 [(0, .ref (ad 8)), (1, .int l1)] := hl
  unfold f_X6_hint at h
  refine lv_iload_n hx hb dX6_hint_0 rfl (lv_at hl 1 rfl) ?_
  refine lv_if_lt (tgt := 9) hx hb dX6_hint_1 (by decide) (fun c1 => ?_) (fun c1 => ?_)
  · replace h := it_t c1 h
    refine lv_bipush (v := -2) hx hb dX6_hint_9 (by decide) ?_
    exact hE hw (congrArg Prod.fst (Option.some.inj h)) (congrArg Prod.snd (Option.some.inj h)) dX6_hint_11
  · replace h := it_f c1 h
    refine lv_iload_n hx hb dX6_hint_4 rfl (lv_at hl 1 rfl) ?_
    refine lv_iconst (v := 3) hx hb dX6_hint_5 (by decide) ?_
    refine lv_icmp_le (tgt := 12) hx hb dX6_hint_6 (by decide) (fun c2 => ?_) (fun c2 => ?_)
    · replace h := it_t c2 h
      refine lv_aload_n hx hb dX6_hint_12 rfl (lv_at hl 0 rfl) ?_
      refine gC_8_1 hx_E hw fl_X6_33 dX6_hint_13 ?_
      obtain ⟨v3, k4, h⟩ := it_b h
      refine kV_z (As := []) (rest := []) (q := 6) hx_E hw (c_X0_fits l K 30 ad hI 6 isB_6  σ k4) mi_X0_fits mv_X0_fits ml_X6_129 (by decide) rfl rfl rfl ⟨⟨Nat.le_of_ble_eq_true rfl, Nat.le_of_ble_eq_true rfl⟩, rfl, rfl⟩ ⟨Nat.zero_le _, Nat.zero_le _⟩ hl.1 rfl (Nat.le_of_ble_eq_true rfl) dX6_hint_16 (fun z5 H locs hw => ?_)
      refine lv_if_ne (tgt := 25) hx hb dX6_hint_19 (by decide) (fun c6 => ?_) (fun c6 => ?_)
      · replace h := it_f c6 h
        refine lv_aload_n hx hb dX6_hint_25 rfl (lv_at hl 0 rfl) ?_
        refine gC_8_2 hx_E hw fl_X6_40 dX6_hint_26 ?_
        refine lv_aload_n hx hb dX6_hint_29 rfl (lv_at hl 0 rfl) ?_
        refine gC_8_1 hx_E hw fl_X6_33 dX6_hint_30 ?_
        refine lv_bipush (v := 7) hx hb dX6_hint_33 (by decide) ?_
        obtain ⟨⟨v7, σ8⟩, k9, h⟩ := it_b h
        refine kV_z (As := [.ref (ad 6), .int (7 : Int32)]) (rest := []) (q := 10) hx_E hw (c_X4_findNext l K ad hI 6 isB_6 (7 : Int32) σ k9) mi_X4_findNext mv_X4_findNext ml_X6_133 (by decide) rfl rfl rfl ⟨⟨Nat.le_of_ble_eq_true rfl, Nat.le_of_ble_eq_true rfl⟩, rfl, rfl⟩ ⟨Nat.zero_le _, Nat.zero_le _⟩ hl.1 rfl (Nat.le_of_ble_eq_true rfl) dX6_hint_35 (fun z10 H locs hw => ?_)
        refine lv_if_eq (tgt := 49) hx hb dX6_hint_38 (by decide) (fun c11 => ?_) (fun c11 => ?_)
        · replace h := it_t c11 h
          refine lv_iconst (v := -1) hx hb dX6_hint_49 (by decide) ?_
          exact hE hw (congrArg Prod.fst (Option.some.inj h)) (congrArg Prod.snd (Option.some.inj h)) dX6_hint_50
        · replace h := it_f c11 h
          refine lv_aload_n hx hb dX6_hint_41 rfl (lv_at hl 0 rfl) ?_
          refine lv_iload_n hx hb dX6_hint_42 rfl (lv_at hl 1 rfl) ?_
          obtain ⟨v12, k13, h⟩ := it_b h
          refine kV_i (As := [.int l1]) (rest := []) (q := 8) hx_E hw (c_X6_foundPart l K ad hI  l1 σ8 k13) mi_X6_foundPart mv_X6_foundPart ml_X6_174 (by decide) rfl rfl rfl ⟨⟨Nat.le_of_ble_eq_true rfl, Nat.le_of_ble_eq_true rfl⟩, rfl, rfl⟩ ⟨Nat.zero_le _, Nat.zero_le _⟩ hl.1 rfl (Nat.le_of_ble_eq_true rfl) dX6_hint_43 (fun H locs hw => ?_)
          refine lv_goto (tgt := 50) hx hb dX6_hint_46 (by decide) ?_
          exact hE hw (congrArg Prod.fst (Option.some.inj h)) (congrArg Prod.snd (Option.some.inj h)) dX6_hint_50
      · replace h := it_t c6 h
        refine lv_bipush (v := -3) hx hb dX6_hint_22 (by decide) ?_
        exact hE hw (congrArg Prod.fst (Option.some.inj h)) (congrArg Prod.snd (Option.some.inj h)) dX6_hint_24
    · replace h := it_f c2 h
      refine lv_bipush (v := -2) hx hb dX6_hint_9 (by decide) ?_
      exact hE hw (congrArg Prod.fst (Option.some.inj h)) (congrArg Prod.snd (Option.some.inj h)) dX6_hint_11
set_option maxHeartbeats 4000000 in
set_option maxRecDepth 100000 in
theorem c_X6_way (l : Launch) (K : vK) (ad : Nat → Nat) (hI : adInj 30 ad) (l1 : Int32) (l2 : Int32) (σ : vSt) {r : Int32} (h : f_X6_way l1 l2 σ = some r) : MCi l yX6_way (wsY yX6_way cX6_way 5 (some .int)) (rmF 3 42) K 30 ad (cC K ad) [.ref (ad 8), .int l1, .int l2] σ r σ := by
  refine MCi_of (own := RX6) (plainFor_of_name (by decide)) hI rfl (Nat.le_of_ble_eq_true rfl) ?_
  intro p e s m args below meth c A Q hx_E hE H locs ls hw hl
  have hx := hx_E.1; have hb := hx_E.2.1; have hown := hx_E.2.2.2.1; have hts := hx_E.2.2.2.2.1
  replace hl : lv_has ls 5 [(0, .ref (ad 8)), (1, .int l1), (2, .int l2)] := hl
  unfold f_X6_way at h
  refine lv_aload_n hx hb dX6_way_0 rfl (lv_at hl 0 rfl) ?_
  refine gC_8_0 hx_E hw fl_X6_27 dX6_way_1 ?_
  refine lv_iload_n hx hb dX6_way_4 rfl (lv_at hl 1 rfl) ?_
  obtain ⟨v1, k2, h⟩ := it_b h
  refine kV_z (As := [.int l1]) (rest := []) (q := 0) hx_E hw (c_X1_hasEdge l K 30 (by decide) ad hI  l1 σ k2) mi_X1_hasEdge mv_X1_hasEdge ml_X6_115 (by decide) rfl rfl rfl ⟨⟨Nat.le_of_ble_eq_true rfl, Nat.le_of_ble_eq_true rfl⟩, rfl, rfl⟩ ⟨Nat.zero_le _, Nat.zero_le _⟩ hl.1 rfl (Nat.le_of_ble_eq_true rfl) dX6_way_5 (fun z3 H locs hw => ?_)
  refine lv_if_eq (tgt := 20) hx hb dX6_way_8 (by decide) (fun c4 => ?_) (fun c4 => ?_)
  · replace h := it_t c4 h
    refine lv_bipush (v := -2) hx hb dX6_way_20 (by decide) ?_
    exact hE hw (Option.some.inj h) rfl dX6_way_22
  · replace h := it_f c4 h
    refine lv_iload_n hx hb dX6_way_11 rfl (lv_at hl 2 rfl) ?_
    refine lv_if_lt (tgt := 20) hx hb dX6_way_12 (by decide) (fun c5 => ?_) (fun c5 => ?_)
    · replace h := it_t c5 h
      refine lv_bipush (v := -2) hx hb dX6_way_20 (by decide) ?_
      exact hE hw (Option.some.inj h) rfl dX6_way_22
    · replace h := it_f c5 h
      refine lv_iload_n hx hb dX6_way_15 rfl (lv_at hl 2 rfl) ?_
      refine lv_iconst (v := 2) hx hb dX6_way_16 (by decide) ?_
      refine lv_icmp_le (tgt := 23) hx hb dX6_way_17 (by decide) (fun c6 => ?_) (fun c6 => ?_)
      · replace h := it_t c6 h
        refine lv_aload_n hx hb dX6_way_23 rfl (lv_at hl 0 rfl) ?_
        refine gC_8_1 hx_E hw fl_X6_33 dX6_way_24 ?_
        refine lv_lconst (v := 1) hx hb dX6_way_27 (by decide) ?_
        refine lv_iload_n hx hb dX6_way_28 rfl (lv_at hl 1 rfl) ?_
        refine lv_lshl (v := (o_lshl (1 : Int64) l1)) hx hb dX6_way_29 rfl ?_
        obtain ⟨v7, k8, h⟩ := it_b h
        refine kV_l (As := [.long (o_lshl (1 : Int64) l1)]) (rest := []) (q := 6) hx_E hw (c_X0_wayOf l K 30 ad hI 6 isB_6 (o_lshl (1 : Int64) l1) σ k8) mi_X0_wayOf mv_X0_wayOf ml_X6_177 (by decide) rfl rfl rfl ⟨⟨Nat.le_of_ble_eq_true rfl, Nat.le_of_ble_eq_true rfl⟩, rfl, rfl⟩ ⟨Nat.zero_le _, Nat.zero_le _⟩ hl.1 rfl (Nat.le_of_ble_eq_true rfl) dX6_way_30 (fun H locs hw => ?_)
        refine lv_lstore_n (lv' := [(3, .long v7), (0, .ref (ad 8)), (1, .int l1), (2, .int l2)]) hx hb dX6_way_33 rfl hl (by decide) rfl (fun ls hl => ?_)
        refine lv_lload_n hx hb dX6_way_34 rfl (lv_at hl 0 rfl) ?_
        refine lv_lconst (v := 0) hx hb dX6_way_35 (by decide) ?_
        refine W.lcmp hx hb dX6_way_36 ?_
        refine lv_if_ne (tgt := 42) hx hb dX6_way_37 (by decide) (fun c9 => ?_) (fun c9 => ?_)
        · replace h := it_f c9 h
          refine lv_iload_n hx hb dX6_way_42 rfl (lv_at hl 3 rfl) ?_
          refine lv_if_ne (tgt := 51) hx hb dX6_way_43 (by decide) (fun c10 => ?_) (fun c10 => ?_)
          · replace h := it_f c10 h
            refine lv_iload_n hx hb dX6_way_51 rfl (lv_at hl 3 rfl) ?_
            refine lv_iconst (v := 1) hx hb dX6_way_52 (by decide) ?_
            refine lv_icmp_ne (tgt := 61) hx hb dX6_way_53 (by decide) (fun c11 => ?_) (fun c11 => ?_)
            · replace h := it_f c11 h
              refine lv_aload_n hx hb dX6_way_61 rfl (lv_at hl 1 rfl) ?_
              refine gC_8_1 hx_E hw fl_X6_33 dX6_way_62 ?_
              refine lv_lload_n hx hb dX6_way_65 rfl (lv_at hl 0 rfl) ?_
              obtain ⟨v12, k13, h⟩ := it_b h
              refine kV_z (As := [.long v7]) (rest := []) (q := 6) hx_E hw (c_X0_isRing l K 30 ad hI 6 isB_6 v7 σ k13) mi_X0_isRing mv_X0_isRing ml_X6_181 (by decide) rfl rfl rfl ⟨⟨Nat.le_of_ble_eq_true rfl, Nat.le_of_ble_eq_true rfl⟩, rfl, rfl⟩ ⟨Nat.zero_le _, Nat.zero_le _⟩ hl.1 rfl (Nat.le_of_ble_eq_true rfl) dX6_way_66 (fun z14 H locs hw => ?_)
              refine lv_if_eq (tgt := 76) hx hb dX6_way_69 (by decide) (fun c15 => ?_) (fun c15 => ?_)
              · replace h := it_t c15 h
                refine lv_iconst (v := 0) hx hb dX6_way_76 (by decide) ?_
                exact hE hw (Option.some.inj h) rfl dX6_way_77
              · replace h := it_f c15 h
                refine lv_iconst (v := 1) hx hb dX6_way_72 (by decide) ?_
                refine lv_goto (tgt := 77) hx hb dX6_way_73 (by decide) ?_
                exact hE hw (Option.some.inj h) rfl dX6_way_77
            · replace h := it_t c11 h
              refine lv_lload_n hx hb dX6_way_56 rfl (lv_at hl 0 rfl) ?_
              obtain ⟨v16, k17, h⟩ := it_b h
              refine kS_i (As := [.long v7]) (rest := []) hx_E hw (c_X6_leastOf l K v7 k17) mi_X6_leastOf sm_X6_leastOf ml_X6_159 rfl ⟨⟨Nat.le_of_ble_eq_true rfl, Nat.le_of_ble_eq_true rfl⟩, rfl, rfl⟩ ⟨Nat.zero_le _, Nat.zero_le _⟩ hl.1 rfl (Nat.le_of_ble_eq_true rfl) dX6_way_57 (fun H locs hw => ?_)
              exact hE hw (Option.some.inj h) rfl dX6_way_60
          · replace h := it_t c10 h
            refine lv_lload_n hx hb dX6_way_46 rfl (lv_at hl 0 rfl) ?_
            obtain ⟨v18, k19, h⟩ := it_b h
            refine kS_i (As := [.long v7]) (rest := []) hx_E hw (c_J13_bitCount_95d88 l K v7 k19) mi_J13_bitCount_95d88 sm_J13_bitCount_95d88 ml_X6_123 rfl ⟨⟨Nat.le_of_ble_eq_true rfl, Nat.le_of_ble_eq_true rfl⟩, rfl, rfl⟩ ⟨Nat.zero_le _, Nat.zero_le _⟩ hl.1 rfl (Nat.le_of_ble_eq_true rfl) dX6_way_47 (fun H locs hw => ?_)
            exact hE hw (Option.some.inj h) rfl dX6_way_50
        · replace h := it_t c9 h
          refine lv_iconst (v := -1) hx hb dX6_way_40 (by decide) ?_
          exact hE hw (Option.some.inj h) rfl dX6_way_41
      · replace h := it_f c6 h
        refine lv_bipush (v := -2) hx hb dX6_way_20 (by decide) ?_
        exact hE hw (Option.some.inj h) rfl dX6_way_22
set_option maxHeartbeats 4000000 in
set_option maxRecDepth 100000 in
theorem c_X1_countedCells (l : Launch) (K : vK) (N : Nat) (hN : 6 ≤ N) (ad : Nat → Nat) (hI : adInj N ad) (σ : vSt) {r : Int32} (h : f_X1_countedCells σ = some r) : MCi l yX1_countedCells (wsY yX1_countedCells cX1_countedCells 3 (some .int)) (rmF 1 0) K N ad (cC K ad) [.ref (ad 0)] σ r σ := by
  refine MCi_of (own := RX1) (plainFor_of_name (by decide)) hI rfl (Nat.le_of_ble_eq_true rfl) ?_
  intro p e s m args below meth c A Q hx_E hE H locs ls hw hl
  have hx := hx_E.1; have hb := hx_E.2.1; have hown := hx_E.2.2.2.1; have hts := hx_E.2.2.2.2.1
  replace hl : lv_has ls 3 [(0, .ref (ad 0))] := hl
  unfold f_X1_countedCells at h
  refine lv_iconst (v := 0) hx hb dX1_countedCells_0 (by decide) ?_
  refine lv_istore_n (lv' := [(1, .int (0 : Int32)), (0, .ref (ad 0))]) hx hb dX1_countedCells_1 rfl hl (by decide) rfl (fun ls hl => ?_)
  refine lv_iconst (v := 0) hx hb dX1_countedCells_2 (by decide) ?_
  refine lv_istore_n (lv' := [(2, .int (0 : Int32)), (1, .int (0 : Int32)), (0, .ref (ad 0))]) hx hb dX1_countedCells_3 rfl hl (by decide) rfl (fun ls hl => ?_)
  obtain ⟨φ6, h9, h_φ6⟩ := it_b h
  have hJ5 : ∀ (v3 : Int32), v3 = φ6 → ∀ (H : Heap) (locs : List Loc) (ls : Array Slot), PW K N ad (cC K ad) A s.heap σ H locs → lv_has ls 3 [(1, .int v3)] → W p l e (rmF 1 0) s m args below meth c H locs 0 0 Q (F0 m 31 ls []) := by
    intro v3 e9 H locs ls hw hl
    subst e9
    replace h := h_φ6
    refine lv_iload_n hx hb dX1_countedCells_31 rfl (lv_at hl 0 rfl) ?_
    exact hE hw (Option.some.inj h) rfl dX1_countedCells_32
  have hL4 : ∀ (n9 : Nat) (v1 : Int32) (v2 : Int32), ∀ (H : Heap) (locs : List Loc) (ls : Array Slot), f_X1_countedCells_4 σ n9 v1 v2 = some φ6 → PW K N ad (cC K ad) A s.heap σ H locs → lv_has ls 3 [(0, .ref (ad 0)), (1, .int v1), (2, .int v2)] → W p l e (rmF 1 0) s m args below meth c H locs 0 0 Q (F0 m 4 ls []) := by
    intro n9
    induction n9 with
    | zero => intro v1 v2 H locs ls h hw hl; rw [f_X1_countedCells_4.eq_1] at h; exact it_n h
    | succ n9 ih =>
      intro v1 v2 H locs ls h hw hl
      rw [f_X1_countedCells_4.eq_2] at h
      refine lv_iload_n hx hb dX1_countedCells_4 rfl (lv_at hl 2 rfl) ?_
      refine lv_aload_n hx hb dX1_countedCells_5 rfl (lv_at hl 0 rfl) ?_
      refine gC_0_7 hx_E hw hN fl_X1_28 dX1_countedCells_6 ?_
      refine lv_icmp_ge (tgt := 31) hx hb dX1_countedCells_9 (by decide) (fun c7 => ?_) (fun c7 => ?_)
      · replace h := it_t c7 h
        have e9 := Option.some.inj h
        subst e9
        exact hJ5 _ rfl  H locs ls hw (lv_sub hl [1] rfl)
      · replace h := it_f c7 h
        refine lv_aload_n hx hb dX1_countedCells_12 rfl (lv_at hl 0 rfl) ?_
        refine gC_0_0 hx_E hw hN fl_X1_9 dX1_countedCells_13 ?_
        refine lv_iload_n hx hb dX1_countedCells_16 rfl (lv_at hl 2 rfl) ?_
        obtain ⟨g8, h⟩ := it_g h
        refine aC_1 hx_E hw hN g8 dX1_countedCells_17 ?_
        refine lv_iconst (v := -1) hx hb dX1_countedCells_18 (by decide) ?_
        refine lv_icmp_eq (tgt := 25) hx hb dX1_countedCells_19 (by decide) (fun c9 => ?_) (fun c9 => ?_)
        · replace h := it_t c9 h
          refine lv_iinc (v := (v2 + 1)) (lv' := [(2, .int (v2 + 1)), (0, .ref (ad 0)), (1, .int v1)]) hx hb dX1_countedCells_25 hl (k := 2) rfl rfl (by decide) rfl (fun ls hl => ?_)
          refine lv_goto (tgt := 4) hx hb dX1_countedCells_28 (by decide) ?_
          exact ih _ _    H locs ls h hw (lv_sub hl [1, 2, 0] rfl)
        · replace h := it_f c9 h
          refine lv_iinc (v := (v1 + 1)) (lv' := [(1, .int (v1 + 1)), (0, .ref (ad 0)), (2, .int v2)]) hx hb dX1_countedCells_22 hl (k := 1) rfl rfl (by decide) rfl (fun ls hl => ?_)
          refine lv_iinc (v := (v2 + 1)) (lv' := [(2, .int (v2 + 1)), (1, .int (v1 + 1)), (0, .ref (ad 0))]) hx hb dX1_countedCells_25 hl (k := 2) rfl rfl (by decide) rfl (fun ls hl => ?_)
          refine lv_goto (tgt := 4) hx hb dX1_countedCells_28 (by decide) ?_
          exact ih _ _    H locs ls h hw (lv_sub hl [2, 1, 0] rfl)
  exact hL4 600 _ _   H locs ls h9 hw (lv_sub hl [2, 1, 0] rfl)
set_option maxHeartbeats 4000000 in
set_option maxRecDepth 100000 in
theorem c_X6_count (l : Launch) (K : vK) (ad : Nat → Nat) (hI : adInj 30 ad) (l1 : Int32) (σ : vSt) {r : Int32} (h : f_X6_count l1 σ = some r) : MCi l yX6_count (wsY yX6_count cX6_count 2 (some .int)) (rmF 2 22) K 30 ad (cC K ad) [.ref (ad 8), .int l1] σ r σ := by
  refine MCi_of (own := RX6) (plainFor_of_name (by decide)) hI rfl (Nat.le_of_ble_eq_true rfl) ?_
  intro p e s m args below meth c A Q hx_E hE H locs ls hw hl
  have hx := hx_E.1; have hb := hx_E.2.1; have hown := hx_E.2.2.2.1; have hts := hx_E.2.2.2.2.1
  replace hl : lv_has ls 2 [(0, .ref (ad 8)), (1, .int l1)] := hl
  unfold f_X6_count at h
  refine lv_iload_n hx hb dX6_count_0 rfl (lv_at hl 1 rfl) ?_
  refine lv_if_lt (tgt := 10) hx hb dX6_count_1 (by decide) (fun c1 => ?_) (fun c1 => ?_)
  · replace h := it_t c1 h
    refine lv_bipush (v := -2) hx hb dX6_count_10 (by decide) ?_
    exact hE hw (Option.some.inj h) rfl dX6_count_12
  · replace h := it_f c1 h
    refine lv_iload_n hx hb dX6_count_4 rfl (lv_at hl 1 rfl) ?_
    refine lv_bipush (v := 15) hx hb dX6_count_5 (by decide) ?_
    refine lv_icmp_le (tgt := 13) hx hb dX6_count_7 (by decide) (fun c2 => ?_) (fun c2 => ?_)
    · replace h := it_t c2 h
      refine lv_iload_n hx hb dX6_count_13 rfl (lv_at hl 1 rfl) ?_
      refine lv_bipush (v := 6) hx hb dX6_count_14 (by decide) ?_
      obtain ⟨φ5, h9, h_φ5⟩ := it_b h
      have hJ4 : ∀ (_u : Unit), .inr () = φ5 → ∀ (H : Heap) (locs : List Loc) (ls : Array Slot), PW K 30 ad (cC K ad) A s.heap σ H locs → lv_has ls 2 [(0, .ref (ad 8)), (1, .int l1)] → W p l e (rmF 2 22) s m args below meth c H locs 0 0 Q (F0 m 35 ls []) := by
        intro _u e9 H locs ls hw hl
        subst e9
        replace h := h_φ5
        refine lv_iload_n hx hb dX6_count_35 rfl (lv_at hl 1 rfl) ?_
        by_cases c14 : l1 = 0
        · replace h := it_t c14 h
          refine lv_tableIn (off := 76) (tgt := 112) hx hb dX6_count_36 (by rw [c14]; decide) (by rw [c14]; decide) (by rw [c14]; rfl) (by decide) ?_
          refine lv_aload_n hx hb dX6_count_112 rfl (lv_at hl 0 rfl) ?_
          refine gC_8_0 hx_E hw fl_X6_27 dX6_count_113 ?_
          refine gC_0_5 hx_E hw (by decide) fl_X6_201 dX6_count_116 ?_
          exact hE hw (Option.some.inj h) rfl dX6_count_119
        replace h := it_f c14 h
        by_cases c15 : l1 = 1
        · replace h := it_t c15 h
          refine lv_tableIn (off := 84) (tgt := 120) hx hb dX6_count_36 (by rw [c15]; decide) (by rw [c15]; decide) (by rw [c15]; rfl) (by decide) ?_
          refine lv_aload_n hx hb dX6_count_120 rfl (lv_at hl 0 rfl) ?_
          refine gC_8_0 hx_E hw fl_X6_27 dX6_count_121 ?_
          refine gC_0_6 hx_E hw (by decide) fl_X6_204 dX6_count_124 ?_
          exact hE hw (Option.some.inj h) rfl dX6_count_127
        replace h := it_f c15 h
        by_cases c16 : l1 = 2
        · replace h := it_t c16 h
          refine lv_tableIn (off := 92) (tgt := 128) hx hb dX6_count_36 (by rw [c16]; decide) (by rw [c16]; decide) (by rw [c16]; rfl) (by decide) ?_
          refine lv_aload_n hx hb dX6_count_128 rfl (lv_at hl 0 rfl) ?_
          refine gC_8_0 hx_E hw fl_X6_27 dX6_count_129 ?_
          refine gC_0_9 hx_E hw (by decide) fl_X6_101 dX6_count_132 ?_
          exact hE hw (Option.some.inj h) rfl dX6_count_135
        replace h := it_f c16 h
        by_cases c17 : l1 = 3
        · replace h := it_t c17 h
          refine lv_tableIn (off := 100) (tgt := 136) hx hb dX6_count_36 (by rw [c17]; decide) (by rw [c17]; decide) (by rw [c17]; rfl) (by decide) ?_
          refine lv_aload_n hx hb dX6_count_136 rfl (lv_at hl 0 rfl) ?_
          refine gC_8_1 hx_E hw fl_X6_33 dX6_count_137 ?_
          refine gC_B_3 hx_E hw isB_6 fl_X6_112 dX6_count_140 ?_
          obtain ⟨v8, k9, h⟩ := it_b h
          refine kS_i (As := [.long (gL σ 6 3)]) (rest := []) hx_E hw (c_J13_bitCount_95d88 l K (gL σ 6 3) k9) mi_J13_bitCount_95d88 sm_J13_bitCount_95d88 ml_X6_123 rfl ⟨⟨Nat.le_of_ble_eq_true rfl, Nat.le_of_ble_eq_true rfl⟩, rfl, rfl⟩ ⟨Nat.zero_le _, Nat.zero_le _⟩ hl.1 rfl (Nat.le_of_ble_eq_true rfl) dX6_count_143 (fun H locs hw => ?_)
          exact hE hw (Option.some.inj h) rfl dX6_count_146
        replace h := it_f c17 h
        by_cases c18 : l1 = 4
        · replace h := it_t c18 h
          refine lv_tableIn (off := 111) (tgt := 147) hx hb dX6_count_36 (by rw [c18]; decide) (by rw [c18]; decide) (by rw [c18]; rfl) (by decide) ?_
          refine lv_aload_n hx hb dX6_count_147 rfl (lv_at hl 0 rfl) ?_
          refine gC_8_1 hx_E hw fl_X6_33 dX6_count_148 ?_
          refine gC_B_2 hx_E hw isB_6 fl_X6_108 dX6_count_151 ?_
          obtain ⟨v10, k11, h⟩ := it_b h
          refine kS_i (As := [.long (gL σ 6 2)]) (rest := []) hx_E hw (c_J13_bitCount_95d88 l K (gL σ 6 2) k11) mi_J13_bitCount_95d88 sm_J13_bitCount_95d88 ml_X6_123 rfl ⟨⟨Nat.le_of_ble_eq_true rfl, Nat.le_of_ble_eq_true rfl⟩, rfl, rfl⟩ ⟨Nat.zero_le _, Nat.zero_le _⟩ hl.1 rfl (Nat.le_of_ble_eq_true rfl) dX6_count_154 (fun H locs hw => ?_)
          exact hE hw (Option.some.inj h) rfl dX6_count_157
        replace h := it_f c18 h
        by_cases c19 : l1 = 5
        · replace h := it_t c19 h
          refine lv_tableIn (off := 122) (tgt := 158) hx hb dX6_count_36 (by rw [c19]; decide) (by rw [c19]; decide) (by rw [c19]; rfl) (by decide) ?_
          refine lv_aload_n hx hb dX6_count_158 rfl (lv_at hl 0 rfl) ?_
          refine gC_8_0 hx_E hw fl_X6_27 dX6_count_159 ?_
          obtain ⟨v12, k13, h⟩ := it_b h
          refine kV_i (As := []) (rest := []) (q := 0) hx_E hw (c_X1_countedCells l K 30 (by decide) ad hI   σ k13) mi_X1_countedCells mv_X1_countedCells ml_X6_207 (by decide) rfl rfl rfl ⟨⟨Nat.le_of_ble_eq_true rfl, Nat.le_of_ble_eq_true rfl⟩, rfl, rfl⟩ ⟨Nat.zero_le _, Nat.zero_le _⟩ hl.1 rfl (Nat.le_of_ble_eq_true rfl) dX6_count_162 (fun H locs hw => ?_)
          exact hE hw (Option.some.inj h) rfl dX6_count_165
        replace h := it_f c19 h
        by_cases c20 : l1 = 6
        · replace h := it_t c20 h
          refine lv_tableIn (off := 138) (tgt := 174) hx hb dX6_count_36 (by rw [c20]; decide) (by rw [c20]; decide) (by rw [c20]; rfl) (by decide) ?_
          refine lv_aload_n hx hb dX6_count_174 rfl (lv_at hl 0 rfl) ?_
          refine gC_8_5 hx_E hw fl_X6_61 dX6_count_175 ?_
          refine gC_27_2 hx_E hw fl_X6_73 dX6_count_178 ?_
          exact hE hw (Option.some.inj h) rfl dX6_count_181
        replace h := it_f c20 h
        by_cases c21 : l1 = 7
        · replace h := it_t c21 h
          refine lv_tableIn (off := 138) (tgt := 174) hx hb dX6_count_36 (by rw [c21]; decide) (by rw [c21]; decide) (by rw [c21]; rfl) (by decide) ?_
          refine lv_aload_n hx hb dX6_count_174 rfl (lv_at hl 0 rfl) ?_
          refine gC_8_5 hx_E hw fl_X6_61 dX6_count_175 ?_
          refine gC_27_2 hx_E hw fl_X6_73 dX6_count_178 ?_
          exact hE hw (Option.some.inj h) rfl dX6_count_181
        replace h := it_f c21 h
        by_cases c22 : l1 = 8
        · replace h := it_t c22 h
          refine lv_tableIn (off := 138) (tgt := 174) hx hb dX6_count_36 (by rw [c22]; decide) (by rw [c22]; decide) (by rw [c22]; rfl) (by decide) ?_
          refine lv_aload_n hx hb dX6_count_174 rfl (lv_at hl 0 rfl) ?_
          refine gC_8_5 hx_E hw fl_X6_61 dX6_count_175 ?_
          refine gC_27_2 hx_E hw fl_X6_73 dX6_count_178 ?_
          exact hE hw (Option.some.inj h) rfl dX6_count_181
        replace h := it_f c22 h
        by_cases c23 : l1 = 9
        · replace h := it_t c23 h
          refine lv_tableIn (off := 138) (tgt := 174) hx hb dX6_count_36 (by rw [c23]; decide) (by rw [c23]; decide) (by rw [c23]; rfl) (by decide) ?_
          refine lv_aload_n hx hb dX6_count_174 rfl (lv_at hl 0 rfl) ?_
          refine gC_8_5 hx_E hw fl_X6_61 dX6_count_175 ?_
          refine gC_27_2 hx_E hw fl_X6_73 dX6_count_178 ?_
          exact hE hw (Option.some.inj h) rfl dX6_count_181
        replace h := it_f c23 h
        by_cases c24 : l1 = 10
        · replace h := it_t c24 h
          refine lv_tableIn (off := 138) (tgt := 174) hx hb dX6_count_36 (by rw [c24]; decide) (by rw [c24]; decide) (by rw [c24]; rfl) (by decide) ?_
          refine lv_aload_n hx hb dX6_count_174 rfl (lv_at hl 0 rfl) ?_
          refine gC_8_5 hx_E hw fl_X6_61 dX6_count_175 ?_
          refine gC_27_2 hx_E hw fl_X6_73 dX6_count_178 ?_
          exact hE hw (Option.some.inj h) rfl dX6_count_181
        replace h := it_f c24 h
        by_cases c25 : l1 = 11
        · replace h := it_t c25 h
          refine lv_tableIn (off := 138) (tgt := 174) hx hb dX6_count_36 (by rw [c25]; decide) (by rw [c25]; decide) (by rw [c25]; rfl) (by decide) ?_
          refine lv_aload_n hx hb dX6_count_174 rfl (lv_at hl 0 rfl) ?_
          refine gC_8_5 hx_E hw fl_X6_61 dX6_count_175 ?_
          refine gC_27_2 hx_E hw fl_X6_73 dX6_count_178 ?_
          exact hE hw (Option.some.inj h) rfl dX6_count_181
        replace h := it_f c25 h
        by_cases c26 : l1 = 12
        · replace h := it_t c26 h
          refine lv_tableIn (off := 138) (tgt := 174) hx hb dX6_count_36 (by rw [c26]; decide) (by rw [c26]; decide) (by rw [c26]; rfl) (by decide) ?_
          refine lv_aload_n hx hb dX6_count_174 rfl (lv_at hl 0 rfl) ?_
          refine gC_8_5 hx_E hw fl_X6_61 dX6_count_175 ?_
          refine gC_27_2 hx_E hw fl_X6_73 dX6_count_178 ?_
          exact hE hw (Option.some.inj h) rfl dX6_count_181
        replace h := it_f c26 h
        by_cases c27 : l1 = 13
        · replace h := it_t c27 h
          refine lv_tableIn (off := 138) (tgt := 174) hx hb dX6_count_36 (by rw [c27]; decide) (by rw [c27]; decide) (by rw [c27]; rfl) (by decide) ?_
          refine lv_aload_n hx hb dX6_count_174 rfl (lv_at hl 0 rfl) ?_
          refine gC_8_5 hx_E hw fl_X6_61 dX6_count_175 ?_
          refine gC_27_2 hx_E hw fl_X6_73 dX6_count_178 ?_
          exact hE hw (Option.some.inj h) rfl dX6_count_181
        replace h := it_f c27 h
        by_cases c28 : l1 = 14
        · replace h := it_t c28 h
          refine lv_tableIn (off := 130) (tgt := 166) hx hb dX6_count_36 (by rw [c28]; decide) (by rw [c28]; decide) (by rw [c28]; rfl) (by decide) ?_
          refine lv_aload_n hx hb dX6_count_166 rfl (lv_at hl 0 rfl) ?_
          refine gC_8_4 hx_E hw fl_X6_54 dX6_count_167 ?_
          refine gC_20_6 hx_E hw fl_X6_143 dX6_count_170 ?_
          exact hE hw (Option.some.inj h) rfl dX6_count_173
        replace h := it_f c28 h
        refine lv_tableOut (tgt := 174) hx hb dX6_count_36 (sw_out0_14 c14 c15 c16 c17 c18 c19 c20 c21 c22 c23 c24 c25 c26 c27 c28) (by decide) ?_
        refine lv_aload_n hx hb dX6_count_174 rfl (lv_at hl 0 rfl) ?_
        refine gC_8_5 hx_E hw fl_X6_61 dX6_count_175 ?_
        refine gC_27_2 hx_E hw fl_X6_73 dX6_count_178 ?_
        exact hE hw (Option.some.inj h) rfl dX6_count_181
      replace h := h9
      refine lv_icmp_lt (tgt := 35) hx hb dX6_count_16 (by decide) (fun c3 => ?_) (fun c3 => ?_)
      · replace h := it_t c3 h
        have e9 := Option.some.inj h
        subst e9
        exact hJ4 () rfl  H locs ls hw (lv_sub hl [0, 1] rfl)
      · replace h := it_f c3 h
        refine lv_iload_n hx hb dX6_count_19 rfl (lv_at hl 1 rfl) ?_
        refine lv_bipush (v := 14) hx hb dX6_count_20 (by decide) ?_
        refine lv_icmp_ge (tgt := 35) hx hb dX6_count_22 (by decide) (fun c6 => ?_) (fun c6 => ?_)
        · replace h := it_t c6 h
          have e9 := Option.some.inj h
          subst e9
          exact hJ4 () rfl  H locs ls hw (lv_sub hl [0, 1] rfl)
        · replace h := it_f c6 h
          refine lv_aload_n hx hb dX6_count_25 rfl (lv_at hl 0 rfl) ?_
          refine gC_8_6 hx_E hw fl_X6_65 dX6_count_26 ?_
          refine lv_iload_n hx hb dX6_count_29 rfl (lv_at hl 1 rfl) ?_
          refine lv_bipush (v := 6) hx hb dX6_count_30 (by decide) ?_
          refine lv_isub hx hb dX6_count_32 ?_
          obtain ⟨g7, h⟩ := it_g h
          refine aC_9 hx_E hw g7 dX6_count_33 ?_
          have e9 := Option.some.inj h
          subst e9
          replace h := h_φ5
          exact hE hw (Option.some.inj h) rfl dX6_count_34
    · replace h := it_f c2 h
      refine lv_bipush (v := -2) hx hb dX6_count_10 (by decide) ?_
      exact hE hw (Option.some.inj h) rfl dX6_count_12
set_option maxHeartbeats 4000000 in
set_option maxRecDepth 100000 in
theorem c_L_low (l : Launch) (K : vK) (l0 : Int32) (l1 : Int32) {r : Int32} (h : f_L_low l0 l1 = some r) : MCi l yL_low (wsY yL_low cL_low 2 (some .int)) (rmF 1 0) K 0 ad_0 (cf_0) [.int l0, .int l1] st_0 r st_0 := by
  refine MCi_of (own := RL) (plainFor_of_name (by decide)) adInj_0 rfl (Nat.le_of_ble_eq_true rfl) ?_
  intro p e s m args below meth c A Q hx_E hE H locs ls hw hl
  have hx := hx_E.1; have hb := hx_E.2.1; have hown := hx_E.2.2.2.1; have hts := hx_E.2.2.2.2.1
  replace hl : lv_has ls 2 [(0, .int l0), (1, .int l1)] := hl
  unfold f_L_low at h
  refine lv_iload_n hx hb dL_low_0 rfl (lv_at hl 0 rfl) ?_
  refine lv_ldc (v := 2147483647) hx hb hown (hts _ kc_L_8) dL_low_1 ?_
  refine lv_iand hx hb dL_low_3 ?_
  refine lv_iload_n hx hb dL_low_4 rfl (lv_at hl 1 rfl) ?_
  obtain ⟨g1, h⟩ := it_g h
  refine lv_irem hx hb dL_low_5 g1 ?_
  exact hE hw (Option.some.inj h) rfl dL_low_6
set_option maxHeartbeats 4000000 in
set_option maxRecDepth 100000 in
theorem c_L_vertical (l : Launch) (K : vK) (N : Nat) (hN : 31 ≤ N) (ad : Nat → Nat) (hI : adInj N ad) (σ : vSt) {r : Int32} (h : f_L_vertical σ = some r) : MCi l yL_vertical (wsY yL_vertical cL_vertical 1 (some .int)) (rmF 1 0) K N ad (cC K ad) [.ref (ad 30)] σ r σ := by
  refine MCi_of (own := RL) (plainFor_of_name (by decide)) hI rfl (Nat.le_of_ble_eq_true rfl) ?_
  intro p e s m args below meth c A Q hx_E hE H locs ls hw hl
  have hx := hx_E.1; have hb := hx_E.2.1; have hown := hx_E.2.2.2.1; have hts := hx_E.2.2.2.2.1
  replace hl : lv_has ls 1 [(0, .ref (ad 30))] := hl
  have h30 : 30 ≤ N := Nat.le_trans (by decide) hN
  have hI30 : adInj 30 ad := adInj_le h30 hI
  unfold f_L_vertical at h
  refine lv_aload_n hx hb dL_vertical_0 rfl (lv_at hl 0 rfl) ?_
  refine lv_iconst (v := 0) hx hb dL_vertical_1 (by decide) ?_
  refine acC_30 hx_E hw hN (by decide) rfl dL_vertical_2 ?_
  refine lv_aload_n hx hb dL_vertical_3 rfl (lv_at hl 0 rfl) ?_
  refine lv_iconst (v := 1) hx hb dL_vertical_4 (by decide) ?_
  refine acC_30 hx_E hw hN (by decide) rfl dL_vertical_5 ?_
  refine lv_iconst (v := 1) hx hb dL_vertical_6 (by decide) ?_
  refine lv_iadd hx hb dL_vertical_7 ?_
  refine lv_imul hx hb dL_vertical_8 ?_
  exact hE hw (Option.some.inj h) rfl dL_vertical_9
set_option maxHeartbeats 4000000 in
set_option maxRecDepth 100000 in
theorem c_L_edges (l : Launch) (K : vK) (N : Nat) (hN : 31 ≤ N) (ad : Nat → Nat) (hI : adInj N ad) (σ : vSt) {r : Int32} (h : f_L_edges σ = some r) : MCi l yL_edges (wsY yL_edges cL_edges 1 (some .int)) (rmF 2 20) K N ad (cC K ad) [.ref (ad 30)] σ r σ := by
  refine MCi_of (own := RL) (plainFor_of_name (by decide)) hI rfl (Nat.le_of_ble_eq_true rfl) ?_
  intro p e s m args below meth c A Q hx_E hE H locs ls hw hl
  have hx := hx_E.1; have hb := hx_E.2.1; have hown := hx_E.2.2.2.1; have hts := hx_E.2.2.2.2.1
  replace hl : lv_has ls 1 [(0, .ref (ad 30))] := hl
  have h30 : 30 ≤ N := Nat.le_trans (by decide) hN
  have hI30 : adInj 30 ad := adInj_le h30 hI
  unfold f_L_edges at h
  refine lv_aload_n hx hb dL_edges_0 rfl (lv_at hl 0 rfl) ?_
  obtain ⟨v1, k2, h⟩ := it_b h
  refine kT_i (As := [.ref (ad 30)]) (rest := []) hx_E hw (c_L_vertical l K N hN ad hI  σ k2) mi_L_vertical sm_L_vertical ml_L_9 rfl ⟨⟨Nat.le_of_ble_eq_true rfl, Nat.le_of_ble_eq_true rfl⟩, rfl, rfl⟩ ⟨Nat.zero_le _, Nat.zero_le _⟩ hl.1 rfl (Nat.le_of_ble_eq_true rfl) dL_edges_1 (fun H locs hw => ?_)
  refine lv_aload_n hx hb dL_edges_4 rfl (lv_at hl 0 rfl) ?_
  refine lv_iconst (v := 0) hx hb dL_edges_5 (by decide) ?_
  refine acC_30 hx_E hw hN (by decide) rfl dL_edges_6 ?_
  refine lv_iconst (v := 1) hx hb dL_edges_7 (by decide) ?_
  refine lv_iadd hx hb dL_edges_8 ?_
  refine lv_aload_n hx hb dL_edges_9 rfl (lv_at hl 0 rfl) ?_
  refine lv_iconst (v := 1) hx hb dL_edges_10 (by decide) ?_
  refine acC_30 hx_E hw hN (by decide) rfl dL_edges_11 ?_
  refine lv_imul hx hb dL_edges_12 ?_
  refine lv_iadd hx hb dL_edges_13 ?_
  exact hE hw (Option.some.inj h) rfl dL_edges_14
set_option maxHeartbeats 4000000 in
set_option maxRecDepth 100000 in
theorem c_L_corners (l : Launch) (K : vK) (N : Nat) (hN : 31 ≤ N) (ad : Nat → Nat) (hI : adInj N ad) (σ : vSt) {r : Int32} (h : f_L_corners σ = some r) : MCi l yL_corners (wsY yL_corners cL_corners 1 (some .int)) (rmF 1 0) K N ad (cC K ad) [.ref (ad 30)] σ r σ := by
  refine MCi_of (own := RL) (plainFor_of_name (by decide)) hI rfl (Nat.le_of_ble_eq_true rfl) ?_
  intro p e s m args below meth c A Q hx_E hE H locs ls hw hl
  have hx := hx_E.1; have hb := hx_E.2.1; have hown := hx_E.2.2.2.1; have hts := hx_E.2.2.2.2.1
  replace hl : lv_has ls 1 [(0, .ref (ad 30))] := hl
  have h30 : 30 ≤ N := Nat.le_trans (by decide) hN
  have hI30 : adInj 30 ad := adInj_le h30 hI
  unfold f_L_corners at h
  refine lv_aload_n hx hb dL_corners_0 rfl (lv_at hl 0 rfl) ?_
  refine lv_iconst (v := 0) hx hb dL_corners_1 (by decide) ?_
  refine acC_30 hx_E hw hN (by decide) rfl dL_corners_2 ?_
  refine lv_iconst (v := 1) hx hb dL_corners_3 (by decide) ?_
  refine lv_iadd hx hb dL_corners_4 ?_
  refine lv_aload_n hx hb dL_corners_5 rfl (lv_at hl 0 rfl) ?_
  refine lv_iconst (v := 1) hx hb dL_corners_6 (by decide) ?_
  refine acC_30 hx_E hw hN (by decide) rfl dL_corners_7 ?_
  refine lv_iconst (v := 1) hx hb dL_corners_8 (by decide) ?_
  refine lv_iadd hx hb dL_corners_9 ?_
  refine lv_imul hx hb dL_corners_10 ?_
  exact hE hw (Option.some.inj h) rfl dL_corners_11
set_option maxHeartbeats 4000000 in
set_option maxRecDepth 100000 in
theorem c_L_ends (l : Launch) (K : vK) (N : Nat) (hN : 31 ≤ N) (ad : Nat → Nat) (hI : adInj N ad) (l1 : Int32) (σ : vSt) {r : Int32} (h : f_L_ends l1 σ = some r) : MCi l yL_ends (wsY yL_ends cL_ends 5 (some .int)) (rmF 2 20) K N ad (cC K ad) [.ref (ad 30), .int l1] σ r σ := by
  refine MCi_of (own := RL) (plainFor_of_name (by decide)) hI rfl (Nat.le_of_ble_eq_true rfl) ?_
  intro p e s m args below meth c A Q hx_E hE H locs ls hw hl
  have hx := hx_E.1; have hb := hx_E.2.1; have hown := hx_E.2.2.2.1; have hts := hx_E.2.2.2.2.1
  replace hl : lv_has ls 5 [(0, .ref (ad 30)), (1, .int l1)] := hl
  have h30 : 30 ≤ N := Nat.le_trans (by decide) hN
  have hI30 : adInj 30 ad := adInj_le h30 hI
  unfold f_L_ends at h
  refine lv_aload_n hx hb dL_ends_0 rfl (lv_at hl 0 rfl) ?_
  refine lv_iconst (v := 0) hx hb dL_ends_1 (by decide) ?_
  refine acC_30 hx_E hw hN (by decide) rfl dL_ends_2 ?_
  refine lv_iconst (v := 1) hx hb dL_ends_3 (by decide) ?_
  refine lv_iadd hx hb dL_ends_4 ?_
  obtain ⟨v1, e_v1, h⟩ := it_b h
  refine lt_topi (Option.some.inj e_v1) ?_
  refine lv_istore_n (lv' := [(2, .int v1), (0, .ref (ad 30)), (1, .int l1)]) hx hb dL_ends_5 rfl hl (by decide) rfl (fun ls hl => ?_)
  refine lv_aload_n hx hb dL_ends_6 rfl (lv_at hl 1 rfl) ?_
  obtain ⟨v2, k3, h⟩ := it_b h
  refine kT_i (As := [.ref (ad 30)]) (rest := []) hx_E hw (c_L_vertical l K N hN ad hI  σ k3) mi_L_vertical sm_L_vertical ml_L_9 rfl ⟨⟨Nat.le_of_ble_eq_true rfl, Nat.le_of_ble_eq_true rfl⟩, rfl, rfl⟩ ⟨Nat.zero_le _, Nat.zero_le _⟩ hl.1 rfl (Nat.le_of_ble_eq_true rfl) dL_ends_7 (fun H locs hw => ?_)
  refine lv_istore_n (lv' := [(3, .int v2), (2, .int v1), (0, .ref (ad 30)), (1, .int l1)]) hx hb dL_ends_10 rfl hl (by decide) rfl (fun ls hl => ?_)
  refine lv_iload_n hx hb dL_ends_11 rfl (lv_at hl 3 rfl) ?_
  refine lv_iload_n hx hb dL_ends_12 rfl (lv_at hl 0 rfl) ?_
  obtain ⟨φ7, h9, h_φ7⟩ := it_b h
  have hJ6 : ∀ (v5 : Int32), v5 = φ7 → ∀ (H : Heap) (locs : List Loc) (ls : Array Slot), PW K N ad (cC K ad) A s.heap σ H locs → lv_has ls 5 [(1, .int l1), (2, .int v1), (3, .int v2)] → W p l e (rmF 2 20) s m args below meth c H locs 0 0 Q (F0 m 29 ls [.int v5]) := by
    intro v5 e9 H locs ls hw hl
    subst e9
    replace h := h_φ7
    refine lv_istore (lv' := [(4, .int v5), (1, .int l1), (2, .int v1), (3, .int v2)]) hx hb dL_ends_29 hl (by decide) rfl (fun ls hl => ?_)
    refine lv_bipush (v := 32) hx hb dL_ends_31 (by decide) ?_
    refine lv_iload hx hb dL_ends_33 (lv_at hl 0 rfl) ?_
    refine lv_imul hx hb dL_ends_35 ?_
    refine lv_iload_n hx hb dL_ends_36 rfl (lv_at hl 1 rfl) ?_
    refine lv_iload_n hx hb dL_ends_37 rfl (lv_at hl 3 rfl) ?_
    refine lv_icmp_ge (tgt := 48) hx hb dL_ends_38 (by decide) (fun c9 => ?_) (fun c9 => ?_)
    · replace h := it_t c9 h
      refine lv_iload hx hb dL_ends_48 (lv_at hl 0 rfl) ?_
      refine lv_iload_n hx hb dL_ends_50 rfl (lv_at hl 2 rfl) ?_
      refine lv_iadd hx hb dL_ends_51 ?_
      refine lv_iadd hx hb dL_ends_52 ?_
      exact hE hw (Option.some.inj h) rfl dL_ends_53
    · replace h := it_f c9 h
      refine lv_iload hx hb dL_ends_41 (lv_at hl 0 rfl) ?_
      refine lv_iconst (v := 1) hx hb dL_ends_43 (by decide) ?_
      refine lv_iadd hx hb dL_ends_44 ?_
      refine lv_goto (tgt := 52) hx hb dL_ends_45 (by decide) ?_
      refine lv_iadd hx hb dL_ends_52 ?_
      exact hE hw (Option.some.inj h) rfl dL_ends_53
  replace h := h9
  refine lv_icmp_ge (tgt := 26) hx hb dL_ends_13 (by decide) (fun c4 => ?_) (fun c4 => ?_)
  · replace h := it_t c4 h
    refine lv_iload_n hx hb dL_ends_26 rfl (lv_at hl 3 rfl) ?_
    refine lv_iload_n hx hb dL_ends_27 rfl (lv_at hl 0 rfl) ?_
    refine lv_isub hx hb dL_ends_28 ?_
    have e9 := Option.some.inj h
    subst e9
    exact hJ6 _ rfl  H locs ls hw (lv_sub hl [3, 1, 0] rfl)
  · replace h := it_f c4 h
    refine lv_iload_n hx hb dL_ends_16 rfl (lv_at hl 3 rfl) ?_
    refine lv_iload_n hx hb dL_ends_17 rfl (lv_at hl 3 rfl) ?_
    refine lv_aload_n hx hb dL_ends_18 rfl (lv_at hl 2 rfl) ?_
    refine lv_iconst (v := 0) hx hb dL_ends_19 (by decide) ?_
    refine acC_30 hx_E hw hN (by decide) rfl dL_ends_20 ?_
    obtain ⟨g8, h⟩ := it_g h
    refine lv_idiv hx hb dL_ends_21 g8 ?_
    refine lv_iadd hx hb dL_ends_22 ?_
    refine lv_goto (tgt := 29) hx hb dL_ends_23 (by decide) ?_
    have e9 := Option.some.inj h
    subst e9
    exact hJ6 _ rfl  H locs ls hw (lv_sub hl [3, 1, 0] rfl)
set_option maxHeartbeats 4000000 in
set_option maxRecDepth 100000 in
theorem c_L_isAt (l : Launch) (K : vK) (N : Nat) (hN : 31 ≤ N) (ad : Nat → Nat) (hI : adInj N ad) (l1 : Int32) (l2 : Int32) (σ : vSt) {r : Int32} (h : f_L_isAt l1 l2 σ = some r) : MCz l yL_isAt (wsY yL_isAt cL_isAt 3 (some .boolean)) (rmF 3 44) K N ad (cC K ad) [.ref (ad 30), .int l1, .int l2] σ r σ := by
  refine MCz_of (own := RL) (plainFor_of_name (by decide)) hI rfl (Nat.le_of_ble_eq_true rfl) ?_
  intro p e s m args below meth c A Q hx_E hE H locs ls hw hl
  have hx := hx_E.1; have hb := hx_E.2.1; have hown := hx_E.2.2.2.1; have hts := hx_E.2.2.2.2.1
  replace hl : lv_has ls 3 [(0, .ref (ad 30)), (1, .int l1), (2, .int l2)] := hl
  have h30 : 30 ≤ N := Nat.le_trans (by decide) hN
  have hI30 : adInj 30 ad := adInj_le h30 hI
  unfold f_L_isAt at h
  refine lv_aload_n hx hb dL_isAt_0 rfl (lv_at hl 0 rfl) ?_
  refine lv_iload_n hx hb dL_isAt_1 rfl (lv_at hl 1 rfl) ?_
  obtain ⟨v1, k2, h⟩ := it_b h
  refine kT_i (As := [.ref (ad 30), .int l1]) (rest := []) hx_E hw (c_L_ends l K N hN ad hI l1 σ k2) mi_L_ends sm_L_ends ml_L_15 rfl ⟨⟨Nat.le_of_ble_eq_true rfl, Nat.le_of_ble_eq_true rfl⟩, rfl, rfl⟩ ⟨Nat.zero_le _, Nat.zero_le _⟩ hl.1 rfl (Nat.le_of_ble_eq_true rfl) dL_isAt_2 (fun H locs hw => ?_)
  refine lv_bipush (v := 32) hx hb dL_isAt_5 (by decide) ?_
  refine lv_idiv hx hb dL_isAt_7 (by decide) ?_
  refine lv_iload_n hx hb dL_isAt_8 rfl (lv_at hl 2 rfl) ?_
  refine lv_icmp_eq (tgt := 24) hx hb dL_isAt_9 (by decide) (fun c3 => ?_) (fun c3 => ?_)
  · replace h := it_t c3 h
    refine lv_iconst (v := 1) hx hb dL_isAt_24 (by decide) ?_
    refine lv_goto (tgt := 29) hx hb dL_isAt_25 (by decide) ?_
    exact hE hw (Option.some.inj h) rfl (Or.inr rfl) dL_isAt_29
  · replace h := it_f c3 h
    refine lv_aload_n hx hb dL_isAt_12 rfl (lv_at hl 0 rfl) ?_
    refine lv_iload_n hx hb dL_isAt_13 rfl (lv_at hl 1 rfl) ?_
    obtain ⟨v4, k5, h⟩ := it_b h
    refine kT_i (As := [.ref (ad 30), .int l1]) (rest := []) hx_E hw (c_L_ends l K N hN ad hI l1 σ k5) mi_L_ends sm_L_ends ml_L_15 rfl ⟨⟨Nat.le_of_ble_eq_true rfl, Nat.le_of_ble_eq_true rfl⟩, rfl, rfl⟩ ⟨Nat.zero_le _, Nat.zero_le _⟩ hl.1 rfl (Nat.le_of_ble_eq_true rfl) dL_isAt_14 (fun H locs hw => ?_)
    refine lv_bipush (v := 32) hx hb dL_isAt_17 (by decide) ?_
    refine lv_irem hx hb dL_isAt_19 (by decide) ?_
    refine lv_iload_n hx hb dL_isAt_20 rfl (lv_at hl 2 rfl) ?_
    refine lv_icmp_ne (tgt := 28) hx hb dL_isAt_21 (by decide) (fun c6 => ?_) (fun c6 => ?_)
    · replace h := it_f c6 h
      refine lv_iconst (v := 0) hx hb dL_isAt_28 (by decide) ?_
      exact hE hw (Option.some.inj h) rfl (Or.inl rfl) dL_isAt_29
    · replace h := it_t c6 h
      refine lv_iconst (v := 1) hx hb dL_isAt_24 (by decide) ?_
      refine lv_goto (tgt := 29) hx hb dL_isAt_25 (by decide) ?_
      exact hE hw (Option.some.inj h) rfl (Or.inr rfl) dL_isAt_29
set_option maxHeartbeats 4000000 in
set_option maxRecDepth 100000 in
theorem c_L_isAround (l : Launch) (K : vK) (N : Nat) (hN : 31 ≤ N) (ad : Nat → Nat) (hI : adInj N ad) (l1 : Int32) (l2 : Int32) (σ : vSt) {r : Int32} (h : f_L_isAround l1 l2 σ = some r) : MCz l yL_isAround (wsY yL_isAround cL_isAround 8 (some .boolean)) (rmF 3 44) K N ad (cC K ad) [.ref (ad 30), .int l1, .int l2] σ r σ := by
  refine MCz_of (own := RL) (plainFor_of_name (by decide)) hI rfl (Nat.le_of_ble_eq_true rfl) ?_
  intro p e s m args below meth c A Q hx_E hE H locs ls hw hl
  have hx := hx_E.1; have hb := hx_E.2.1; have hown := hx_E.2.2.2.1; have hts := hx_E.2.2.2.2.1
  replace hl : lv_has ls 8 [(0, .ref (ad 30)), (1, .int l1), (2, .int l2)] := hl
  have h30 : 30 ≤ N := Nat.le_trans (by decide) hN
  have hI30 : adInj 30 ad := adInj_le h30 hI
  unfold f_L_isAround at h
  refine lv_iload_n hx hb dL_isAround_0 rfl (lv_at hl 2 rfl) ?_
  refine lv_aload_n hx hb dL_isAround_1 rfl (lv_at hl 0 rfl) ?_
  refine lv_iconst (v := 0) hx hb dL_isAround_2 (by decide) ?_
  refine acC_30 hx_E hw hN (by decide) rfl dL_isAround_3 ?_
  obtain ⟨g1, h⟩ := it_g h
  refine lv_idiv hx hb dL_isAround_4 g1 ?_
  obtain ⟨v2, e_v2, h⟩ := it_b h
  refine lt_topi (Option.some.inj e_v2) ?_
  refine lv_istore_n (lv' := [(3, .int v2), (0, .ref (ad 30)), (1, .int l1), (2, .int l2)]) hx hb dL_isAround_5 rfl hl (by decide) rfl (fun ls hl => ?_)
  refine lv_iload_n hx hb dL_isAround_6 rfl (lv_at hl 0 rfl) ?_
  refine lv_aload_n hx hb dL_isAround_7 rfl (lv_at hl 1 rfl) ?_
  refine lv_iconst (v := 0) hx hb dL_isAround_8 (by decide) ?_
  refine acC_30 hx_E hw hN (by decide) rfl dL_isAround_9 ?_
  refine lv_iconst (v := 1) hx hb dL_isAround_10 (by decide) ?_
  refine lv_iadd hx hb dL_isAround_11 ?_
  refine lv_imul hx hb dL_isAround_12 ?_
  refine lv_iload_n hx hb dL_isAround_13 rfl (lv_at hl 3 rfl) ?_
  refine lv_aload_n hx hb dL_isAround_14 rfl (lv_at hl 1 rfl) ?_
  refine lv_iconst (v := 0) hx hb dL_isAround_15 (by decide) ?_
  refine acC_30 hx_E hw hN (by decide) rfl dL_isAround_16 ?_
  obtain ⟨g3, h⟩ := it_g h
  refine lv_irem hx hb dL_isAround_17 g3 ?_
  refine lv_iadd hx hb dL_isAround_18 ?_
  obtain ⟨v4, e_v4, h⟩ := it_b h
  refine lt_topi (Option.some.inj e_v4) ?_
  refine lv_istore (lv' := [(4, .int v4), (3, .int v2), (0, .ref (ad 30)), (1, .int l1), (2, .int l2)]) hx hb dL_isAround_19 hl (by decide) rfl (fun ls hl => ?_)
  refine lv_aload_n hx hb dL_isAround_21 rfl (lv_at hl 2 rfl) ?_
  refine lv_iload_n hx hb dL_isAround_22 rfl (lv_at hl 3 rfl) ?_
  obtain ⟨v5, k6, h⟩ := it_b h
  refine kT_i (As := [.ref (ad 30), .int l1]) (rest := []) hx_E hw (c_L_ends l K N hN ad hI l1 σ k6) mi_L_ends sm_L_ends ml_L_15 rfl ⟨⟨Nat.le_of_ble_eq_true rfl, Nat.le_of_ble_eq_true rfl⟩, rfl, rfl⟩ ⟨Nat.zero_le _, Nat.zero_le _⟩ hl.1 rfl (Nat.le_of_ble_eq_true rfl) dL_isAround_23 (fun H locs hw => ?_)
  refine lv_bipush (v := 32) hx hb dL_isAround_26 (by decide) ?_
  refine lv_idiv hx hb dL_isAround_28 (by decide) ?_
  obtain ⟨v7, e_v7, h⟩ := it_b h
  refine lt_topi (Option.some.inj e_v7) ?_
  refine lv_istore (lv' := [(5, .int v7), (4, .int v4), (3, .int v2), (0, .ref (ad 30)), (1, .int l1), (2, .int l2)]) hx hb dL_isAround_29 hl (by decide) rfl (fun ls hl => ?_)
  refine lv_aload_n hx hb dL_isAround_31 rfl (lv_at hl 3 rfl) ?_
  refine lv_iload_n hx hb dL_isAround_32 rfl (lv_at hl 4 rfl) ?_
  obtain ⟨v8, k9, h⟩ := it_b h
  refine kT_i (As := [.ref (ad 30), .int l1]) (rest := []) hx_E hw (c_L_ends l K N hN ad hI l1 σ k9) mi_L_ends sm_L_ends ml_L_15 rfl ⟨⟨Nat.le_of_ble_eq_true rfl, Nat.le_of_ble_eq_true rfl⟩, rfl, rfl⟩ ⟨Nat.zero_le _, Nat.zero_le _⟩ hl.1 rfl (Nat.le_of_ble_eq_true rfl) dL_isAround_33 (fun H locs hw => ?_)
  refine lv_bipush (v := 32) hx hb dL_isAround_36 (by decide) ?_
  refine lv_irem hx hb dL_isAround_38 (by decide) ?_
  obtain ⟨v10, e_v10, h⟩ := it_b h
  refine lt_topi (Option.some.inj e_v10) ?_
  refine lv_istore (lv' := [(6, .int v10), (5, .int v7), (4, .int v4), (3, .int v2), (0, .ref (ad 30)), (1, .int l1), (2, .int l2)]) hx hb dL_isAround_39 hl (by decide) rfl (fun ls hl => ?_)
  refine lv_iload hx hb dL_isAround_41 (lv_at hl 1 rfl) ?_
  refine lv_iload hx hb dL_isAround_43 (lv_at hl 2 rfl) ?_
  obtain ⟨φ14, h9, h_φ14⟩ := it_b h
  have hJ13 : ∀ (v12 : Int32), v12 = φ14 → (v12 = 0 ∨ v12 = 1) → ∀ (H : Heap) (locs : List Loc) (ls : Array Slot), PW K N ad (cC K ad) A s.heap σ H locs → lv_has ls 8 [(0, .ref (ad 30)), (4, .int v4), (6, .int v10)] → W p l e (rmF 3 44) s m args below meth c H locs 0 0 Q (F0 m 75 ls [.int v12]) := by
    intro v12 e9 z_v12 H locs ls hw hl
    subst e9
    replace h := h_φ14
    refine lv_istore (lv' := [(7, .int v12), (0, .ref (ad 30)), (4, .int v4), (6, .int v10)]) hx hb dL_isAround_75 hl (by decide) rfl (fun ls hl => ?_)
    refine lv_iload hx hb dL_isAround_77 (lv_at hl 0 rfl) ?_
    refine lv_if_eq (tgt := 121) hx hb dL_isAround_79 (by decide) (fun c17 => ?_) (fun c17 => ?_)
    · replace h := it_t c17 h
      refine lv_iconst (v := 0) hx hb dL_isAround_121 (by decide) ?_
      exact hE hw (Option.some.inj h) rfl (Or.inl rfl) dL_isAround_122
    · replace h := it_f c17 h
      refine lv_iload hx hb dL_isAround_82 (lv_at hl 3 rfl) ?_
      refine lv_iload hx hb dL_isAround_84 (lv_at hl 2 rfl) ?_
      refine lv_iconst (v := 1) hx hb dL_isAround_86 (by decide) ?_
      refine lv_iadd hx hb dL_isAround_87 ?_
      refine lv_icmp_eq (tgt := 117) hx hb dL_isAround_88 (by decide) (fun c18 => ?_) (fun c18 => ?_)
      · replace h := it_t c18 h
        refine lv_iconst (v := 1) hx hb dL_isAround_117 (by decide) ?_
        refine lv_goto (tgt := 122) hx hb dL_isAround_118 (by decide) ?_
        exact hE hw (Option.some.inj h) rfl (Or.inr rfl) dL_isAround_122
      · replace h := it_f c18 h
        refine lv_iload hx hb dL_isAround_91 (lv_at hl 3 rfl) ?_
        refine lv_iload hx hb dL_isAround_93 (lv_at hl 2 rfl) ?_
        refine lv_aload_n hx hb dL_isAround_95 rfl (lv_at hl 1 rfl) ?_
        refine lv_iconst (v := 0) hx hb dL_isAround_96 (by decide) ?_
        refine acC_30 hx_E hw hN (by decide) rfl dL_isAround_97 ?_
        refine lv_iadd hx hb dL_isAround_98 ?_
        refine lv_iconst (v := 1) hx hb dL_isAround_99 (by decide) ?_
        refine lv_iadd hx hb dL_isAround_100 ?_
        refine lv_icmp_eq (tgt := 117) hx hb dL_isAround_101 (by decide) (fun c19 => ?_) (fun c19 => ?_)
        · replace h := it_t c19 h
          refine lv_iconst (v := 1) hx hb dL_isAround_117 (by decide) ?_
          refine lv_goto (tgt := 122) hx hb dL_isAround_118 (by decide) ?_
          exact hE hw (Option.some.inj h) rfl (Or.inr rfl) dL_isAround_122
        · replace h := it_f c19 h
          refine lv_iload hx hb dL_isAround_104 (lv_at hl 3 rfl) ?_
          refine lv_iload hx hb dL_isAround_106 (lv_at hl 2 rfl) ?_
          refine lv_aload_n hx hb dL_isAround_108 rfl (lv_at hl 1 rfl) ?_
          refine lv_iconst (v := 0) hx hb dL_isAround_109 (by decide) ?_
          refine acC_30 hx_E hw hN (by decide) rfl dL_isAround_110 ?_
          refine lv_iadd hx hb dL_isAround_111 ?_
          refine lv_iconst (v := 2) hx hb dL_isAround_112 (by decide) ?_
          refine lv_iadd hx hb dL_isAround_113 ?_
          refine lv_icmp_ne (tgt := 121) hx hb dL_isAround_114 (by decide) (fun c20 => ?_) (fun c20 => ?_)
          · replace h := it_f c20 h
            refine lv_iconst (v := 0) hx hb dL_isAround_121 (by decide) ?_
            exact hE hw (Option.some.inj h) rfl (Or.inl rfl) dL_isAround_122
          · replace h := it_t c20 h
            refine lv_iconst (v := 1) hx hb dL_isAround_117 (by decide) ?_
            refine lv_goto (tgt := 122) hx hb dL_isAround_118 (by decide) ?_
            exact hE hw (Option.some.inj h) rfl (Or.inr rfl) dL_isAround_122
  replace h := h9
  refine lv_icmp_eq (tgt := 70) hx hb dL_isAround_45 (by decide) (fun c11 => ?_) (fun c11 => ?_)
  · replace h := it_t c11 h
    refine lv_iconst (v := 1) hx hb dL_isAround_70 (by decide) ?_
    refine lv_goto (tgt := 75) hx hb dL_isAround_71 (by decide) ?_
    have e9 := Option.some.inj h
    subst e9
    exact hJ13 _ rfl (Or.inr rfl) H locs ls hw (lv_sub hl [4, 2, 0] rfl)
  · replace h := it_f c11 h
    refine lv_iload hx hb dL_isAround_48 (lv_at hl 1 rfl) ?_
    refine lv_iload hx hb dL_isAround_50 (lv_at hl 2 rfl) ?_
    refine lv_iconst (v := 1) hx hb dL_isAround_52 (by decide) ?_
    refine lv_iadd hx hb dL_isAround_53 ?_
    refine lv_icmp_eq (tgt := 70) hx hb dL_isAround_54 (by decide) (fun c15 => ?_) (fun c15 => ?_)
    · replace h := it_t c15 h
      refine lv_iconst (v := 1) hx hb dL_isAround_70 (by decide) ?_
      refine lv_goto (tgt := 75) hx hb dL_isAround_71 (by decide) ?_
      have e9 := Option.some.inj h
      subst e9
      exact hJ13 _ rfl (Or.inr rfl) H locs ls hw (lv_sub hl [4, 2, 0] rfl)
    · replace h := it_f c15 h
      refine lv_iload hx hb dL_isAround_57 (lv_at hl 1 rfl) ?_
      refine lv_iload hx hb dL_isAround_59 (lv_at hl 2 rfl) ?_
      refine lv_aload_n hx hb dL_isAround_61 rfl (lv_at hl 4 rfl) ?_
      refine lv_iconst (v := 0) hx hb dL_isAround_62 (by decide) ?_
      refine acC_30 hx_E hw hN (by decide) rfl dL_isAround_63 ?_
      refine lv_iadd hx hb dL_isAround_64 ?_
      refine lv_iconst (v := 1) hx hb dL_isAround_65 (by decide) ?_
      refine lv_iadd hx hb dL_isAround_66 ?_
      refine lv_icmp_ne (tgt := 74) hx hb dL_isAround_67 (by decide) (fun c16 => ?_) (fun c16 => ?_)
      · replace h := it_f c16 h
        refine lv_iconst (v := 0) hx hb dL_isAround_74 (by decide) ?_
        have e9 := Option.some.inj h
        subst e9
        exact hJ13 _ rfl (Or.inl rfl) H locs ls hw (lv_sub hl [4, 2, 0] rfl)
      · replace h := it_t c16 h
        refine lv_iconst (v := 1) hx hb dL_isAround_70 (by decide) ?_
        refine lv_goto (tgt := 75) hx hb dL_isAround_71 (by decide) ?_
        have e9 := Option.some.inj h
        subst e9
        exact hJ13 _ rfl (Or.inr rfl) H locs ls hw (lv_sub hl [4, 2, 0] rfl)
set_option maxHeartbeats 4000000 in
set_option maxRecDepth 100000 in
theorem c_L_around (l : Launch) (K : vK) (N : Nat) (hN : 31 ≤ N) (ad : Nat → Nat) (hI : adInj N ad) (l1 : Int32) (l2 : Int32) (σ : vSt) {r : Int32} (h : f_L_around l1 l2 σ = some r) : MCi l yL_around (wsY yL_around cL_around 5 (some .int)) (rmF 4 71) K N ad (cC K ad) [.ref (ad 30), .int l1, .int l2] σ r σ := by
  refine MCi_of (own := RL) (plainFor_of_name (by decide)) hI rfl (Nat.le_of_ble_eq_true rfl) ?_
  intro p e s m args below meth c A Q hx_E hE H locs ls hw hl
  have hx := hx_E.1; have hb := hx_E.2.1; have hown := hx_E.2.2.2.1; have hts := hx_E.2.2.2.2.1
  replace hl : lv_has ls 5 [(0, .ref (ad 30)), (1, .int l1), (2, .int l2)] := hl
  have h30 : 30 ≤ N := Nat.le_trans (by decide) hN
  have hI30 : adInj 30 ad := adInj_le h30 hI
  unfold f_L_around at h
  refine lv_iconst (v := 0) hx hb dL_around_0 (by decide) ?_
  refine lv_istore_n (lv' := [(3, .int (0 : Int32)), (0, .ref (ad 30)), (1, .int l1), (2, .int l2)]) hx hb dL_around_1 rfl hl (by decide) rfl (fun ls hl => ?_)
  refine lv_iconst (v := 0) hx hb dL_around_2 (by decide) ?_
  refine lv_istore (lv' := [(4, .int (0 : Int32)), (3, .int (0 : Int32)), (0, .ref (ad 30)), (1, .int l1), (2, .int l2)]) hx hb dL_around_3 hl (by decide) rfl (fun ls hl => ?_)
  obtain ⟨φ6, h9, h_φ6⟩ := it_b h
  have hJ5 : ∀ (v3 : Int32), v3 = φ6 → ∀ (H : Heap) (locs : List Loc) (ls : Array Slot), PW K N ad (cC K ad) A s.heap σ H locs → lv_has ls 5 [(3, .int v3)] → W p l e (rmF 4 71) s m args below meth c H locs 0 0 Q (F0 m 49 ls []) := by
    intro v3 e9 H locs ls hw hl
    subst e9
    replace h := h_φ6
    refine lv_iload_n hx hb dL_around_49 rfl (lv_at hl 0 rfl) ?_
    exact hE hw (Option.some.inj h) rfl dL_around_50
  have hL4 : ∀ (n9 : Nat) (v1 : Int32) (v2 : Int32), ∀ (H : Heap) (locs : List Loc) (ls : Array Slot), f_L_around_5 l1 l2 σ n9 v1 v2 = some φ6 → PW K N ad (cC K ad) A s.heap σ H locs → lv_has ls 5 [(0, .ref (ad 30)), (1, .int l1), (2, .int l2), (3, .int v1), (4, .int v2)] → W p l e (rmF 4 71) s m args below meth c H locs 0 0 Q (F0 m 5 ls []) := by
    intro n9
    induction n9 with
    | zero => intro v1 v2 H locs ls h hw hl; rw [f_L_around_5.eq_1] at h; exact it_n h
    | succ n9 ih =>
      intro v1 v2 H locs ls h hw hl
      rw [f_L_around_5.eq_2] at h
      refine lv_iload hx hb dL_around_5 (lv_at hl 4 rfl) ?_
      refine lv_aload_n hx hb dL_around_7 rfl (lv_at hl 0 rfl) ?_
      obtain ⟨v7, k8, h⟩ := it_b h
      refine kT_i (As := [.ref (ad 30)]) (rest := [.int v2]) hx_E hw (c_L_edges l K N hN ad hI  σ k8) mi_L_edges sm_L_edges ml_L_19 rfl ⟨⟨Nat.le_of_ble_eq_true rfl, Nat.le_of_ble_eq_true rfl⟩, rfl, rfl⟩ ⟨Nat.zero_le _, Nat.zero_le _⟩ hl.1 rfl (Nat.le_of_ble_eq_true rfl) dL_around_8 (fun H locs hw => ?_)
      refine lv_icmp_ge (tgt := 49) hx hb dL_around_11 (by decide) (fun c9 => ?_) (fun c9 => ?_)
      · replace h := it_t c9 h
        have e9 := Option.some.inj h
        subst e9
        exact hJ5 _ rfl  H locs ls hw (lv_sub hl [3] rfl)
      · replace h := it_f c9 h
        refine lv_iload_n hx hb dL_around_14 rfl (lv_at hl 3 rfl) ?_
        refine lv_aload_n hx hb dL_around_15 rfl (lv_at hl 0 rfl) ?_
        refine lv_bipush (v := 18) hx hb dL_around_16 (by decide) ?_
        refine lv_iload hx hb dL_around_18 (lv_at hl 4 rfl) ?_
        refine lv_iadd hx hb dL_around_20 ?_
        obtain ⟨g10, h⟩ := it_g h
        refine aC_30 hx_E hw hN g10 dL_around_21 ?_
        refine lv_iload_n hx hb dL_around_22 rfl (lv_at hl 2 rfl) ?_
        obtain ⟨φ14, h9, h_φ14⟩ := it_b h
        have hJ13 : ∀ (v12 : Int32), v12 = φ14 → (v12 = 0 ∨ v12 = 1) → ∀ (H : Heap) (locs : List Loc) (ls : Array Slot), PW K N ad (cC K ad) A s.heap σ H locs → lv_has ls 5 [(0, .ref (ad 30)), (1, .int l1), (2, .int l2), (4, .int v2)] → W p l e (rmF 4 71) s m args below meth c H locs 0 0 Q (F0 m 41 ls [.int v12, .int v1]) := by
          intro v12 e9 z_v12 H locs ls hw hl
          subst e9
          replace h := h_φ14
          refine lv_iadd hx hb dL_around_41 ?_
          obtain ⟨v19, e_v19, h⟩ := it_b h
          refine lt_topi (Option.some.inj e_v19) ?_
          refine lv_istore_n (lv' := [(3, .int v19), (0, .ref (ad 30)), (1, .int l1), (2, .int l2), (4, .int v2)]) hx hb dL_around_42 rfl hl (by decide) rfl (fun ls hl => ?_)
          refine lv_iinc (v := (v2 + 1)) (lv' := [(4, .int (v2 + 1)), (3, .int v19), (0, .ref (ad 30)), (1, .int l1), (2, .int l2)]) hx hb dL_around_43 hl (k := 4) rfl rfl (by decide) rfl (fun ls hl => ?_)
          refine lv_goto (tgt := 5) hx hb dL_around_46 (by decide) ?_
          exact ih _ _    H locs ls h hw (lv_sub hl [2, 3, 4, 1, 0] rfl)
        replace h := h9
        refine lv_icmp_ne (tgt := 40) hx hb dL_around_23 (by decide) (fun c11 => ?_) (fun c11 => ?_)
        · replace h := it_f c11 h
          refine lv_iconst (v := 0) hx hb dL_around_40 (by decide) ?_
          have e9 := Option.some.inj h
          subst e9
          exact hJ13 _ rfl (Or.inl rfl) H locs ls hw (lv_sub hl [0, 1, 2, 4] rfl)
        · replace h := it_t c11 h
          refine lv_aload_n hx hb dL_around_26 rfl (lv_at hl 0 rfl) ?_
          refine lv_iload hx hb dL_around_27 (lv_at hl 4 rfl) ?_
          refine lv_iload_n hx hb dL_around_29 rfl (lv_at hl 1 rfl) ?_
          obtain ⟨v15, k16, h⟩ := it_b h
          refine kT_z (As := [.ref (ad 30), .int v2, .int l1]) (rest := [.int v1]) hx_E hw (c_L_isAround l K N hN ad hI v2 l1 σ k16) mi_L_isAround sm_L_isAround ml_L_22 rfl ⟨⟨Nat.le_of_ble_eq_true rfl, Nat.le_of_ble_eq_true rfl⟩, rfl, rfl⟩ ⟨Nat.zero_le _, Nat.zero_le _⟩ hl.1 rfl (Nat.le_of_ble_eq_true rfl) dL_around_30 (fun z17 H locs hw => ?_)
          refine lv_if_eq (tgt := 40) hx hb dL_around_33 (by decide) (fun c18 => ?_) (fun c18 => ?_)
          · replace h := it_t c18 h
            refine lv_iconst (v := 0) hx hb dL_around_40 (by decide) ?_
            have e9 := Option.some.inj h
            subst e9
            exact hJ13 _ rfl (Or.inl rfl) H locs ls hw (lv_sub hl [0, 1, 2, 4] rfl)
          · replace h := it_f c18 h
            refine lv_iconst (v := 1) hx hb dL_around_36 (by decide) ?_
            refine lv_goto (tgt := 41) hx hb dL_around_37 (by decide) ?_
            have e9 := Option.some.inj h
            subst e9
            exact hJ13 _ rfl (Or.inr rfl) H locs ls hw (lv_sub hl [0, 1, 2, 4] rfl)
  exact hL4 600 _ _   H locs ls h9 hw (lv_sub hl [2, 3, 4, 1, 0] rfl)
set_option maxHeartbeats 4000000 in
set_option maxRecDepth 100000 in
theorem c_L_at (l : Launch) (K : vK) (N : Nat) (hN : 31 ≤ N) (ad : Nat → Nat) (hI : adInj N ad) (l1 : Int32) (l2 : Int32) (σ : vSt) {r : Int32} (h : f_L_at l1 l2 σ = some r) : MCi l yL_at (wsY yL_at cL_at 5 (some .int)) (rmF 4 66) K N ad (cC K ad) [.ref (ad 30), .int l1, .int l2] σ r σ := by
  refine MCi_of (own := RL) (plainFor_of_name (by decide)) hI rfl (Nat.le_of_ble_eq_true rfl) ?_
  intro p e s m args below meth c A Q hx_E hE H locs ls hw hl
  have hx := hx_E.1; have hb := hx_E.2.1; have hown := hx_E.2.2.2.1; have hts := hx_E.2.2.2.2.1
  replace hl : lv_has ls 5 [(0, .ref (ad 30)), (1, .int l1), (2, .int l2)] := hl
  have h30 : 30 ≤ N := Nat.le_trans (by decide) hN
  have hI30 : adInj 30 ad := adInj_le h30 hI
  unfold f_L_at at h
  refine lv_iconst (v := 0) hx hb dL_at_0 (by decide) ?_
  refine lv_istore_n (lv' := [(3, .int (0 : Int32)), (0, .ref (ad 30)), (1, .int l1), (2, .int l2)]) hx hb dL_at_1 rfl hl (by decide) rfl (fun ls hl => ?_)
  refine lv_iconst (v := 0) hx hb dL_at_2 (by decide) ?_
  refine lv_istore (lv' := [(4, .int (0 : Int32)), (3, .int (0 : Int32)), (0, .ref (ad 30)), (1, .int l1), (2, .int l2)]) hx hb dL_at_3 hl (by decide) rfl (fun ls hl => ?_)
  obtain ⟨φ6, h9, h_φ6⟩ := it_b h
  have hJ5 : ∀ (v3 : Int32), v3 = φ6 → ∀ (H : Heap) (locs : List Loc) (ls : Array Slot), PW K N ad (cC K ad) A s.heap σ H locs → lv_has ls 5 [(3, .int v3)] → W p l e (rmF 4 66) s m args below meth c H locs 0 0 Q (F0 m 49 ls []) := by
    intro v3 e9 H locs ls hw hl
    subst e9
    replace h := h_φ6
    refine lv_iload_n hx hb dL_at_49 rfl (lv_at hl 0 rfl) ?_
    exact hE hw (Option.some.inj h) rfl dL_at_50
  have hL4 : ∀ (n9 : Nat) (v1 : Int32) (v2 : Int32), ∀ (H : Heap) (locs : List Loc) (ls : Array Slot), f_L_at_5 l1 l2 σ n9 v1 v2 = some φ6 → PW K N ad (cC K ad) A s.heap σ H locs → lv_has ls 5 [(0, .ref (ad 30)), (1, .int l1), (2, .int l2), (3, .int v1), (4, .int v2)] → W p l e (rmF 4 66) s m args below meth c H locs 0 0 Q (F0 m 5 ls []) := by
    intro n9
    induction n9 with
    | zero => intro v1 v2 H locs ls h hw hl; rw [f_L_at_5.eq_1] at h; exact it_n h
    | succ n9 ih =>
      intro v1 v2 H locs ls h hw hl
      rw [f_L_at_5.eq_2] at h
      refine lv_iload hx hb dL_at_5 (lv_at hl 4 rfl) ?_
      refine lv_aload_n hx hb dL_at_7 rfl (lv_at hl 0 rfl) ?_
      obtain ⟨v7, k8, h⟩ := it_b h
      refine kT_i (As := [.ref (ad 30)]) (rest := [.int v2]) hx_E hw (c_L_edges l K N hN ad hI  σ k8) mi_L_edges sm_L_edges ml_L_19 rfl ⟨⟨Nat.le_of_ble_eq_true rfl, Nat.le_of_ble_eq_true rfl⟩, rfl, rfl⟩ ⟨Nat.zero_le _, Nat.zero_le _⟩ hl.1 rfl (Nat.le_of_ble_eq_true rfl) dL_at_8 (fun H locs hw => ?_)
      refine lv_icmp_ge (tgt := 49) hx hb dL_at_11 (by decide) (fun c9 => ?_) (fun c9 => ?_)
      · replace h := it_t c9 h
        have e9 := Option.some.inj h
        subst e9
        exact hJ5 _ rfl  H locs ls hw (lv_sub hl [3] rfl)
      · replace h := it_f c9 h
        refine lv_iload_n hx hb dL_at_14 rfl (lv_at hl 3 rfl) ?_
        refine lv_aload_n hx hb dL_at_15 rfl (lv_at hl 0 rfl) ?_
        refine lv_bipush (v := 18) hx hb dL_at_16 (by decide) ?_
        refine lv_iload hx hb dL_at_18 (lv_at hl 4 rfl) ?_
        refine lv_iadd hx hb dL_at_20 ?_
        obtain ⟨g10, h⟩ := it_g h
        refine aC_30 hx_E hw hN g10 dL_at_21 ?_
        refine lv_iload_n hx hb dL_at_22 rfl (lv_at hl 2 rfl) ?_
        obtain ⟨φ14, h9, h_φ14⟩ := it_b h
        have hJ13 : ∀ (v12 : Int32), v12 = φ14 → (v12 = 0 ∨ v12 = 1) → ∀ (H : Heap) (locs : List Loc) (ls : Array Slot), PW K N ad (cC K ad) A s.heap σ H locs → lv_has ls 5 [(0, .ref (ad 30)), (1, .int l1), (2, .int l2), (4, .int v2)] → W p l e (rmF 4 66) s m args below meth c H locs 0 0 Q (F0 m 41 ls [.int v12, .int v1]) := by
          intro v12 e9 z_v12 H locs ls hw hl
          subst e9
          replace h := h_φ14
          refine lv_iadd hx hb dL_at_41 ?_
          obtain ⟨v19, e_v19, h⟩ := it_b h
          refine lt_topi (Option.some.inj e_v19) ?_
          refine lv_istore_n (lv' := [(3, .int v19), (0, .ref (ad 30)), (1, .int l1), (2, .int l2), (4, .int v2)]) hx hb dL_at_42 rfl hl (by decide) rfl (fun ls hl => ?_)
          refine lv_iinc (v := (v2 + 1)) (lv' := [(4, .int (v2 + 1)), (3, .int v19), (0, .ref (ad 30)), (1, .int l1), (2, .int l2)]) hx hb dL_at_43 hl (k := 4) rfl rfl (by decide) rfl (fun ls hl => ?_)
          refine lv_goto (tgt := 5) hx hb dL_at_46 (by decide) ?_
          exact ih _ _    H locs ls h hw (lv_sub hl [2, 3, 4, 1, 0] rfl)
        replace h := h9
        refine lv_icmp_ne (tgt := 40) hx hb dL_at_23 (by decide) (fun c11 => ?_) (fun c11 => ?_)
        · replace h := it_f c11 h
          refine lv_iconst (v := 0) hx hb dL_at_40 (by decide) ?_
          have e9 := Option.some.inj h
          subst e9
          exact hJ13 _ rfl (Or.inl rfl) H locs ls hw (lv_sub hl [0, 1, 2, 4] rfl)
        · replace h := it_t c11 h
          refine lv_aload_n hx hb dL_at_26 rfl (lv_at hl 0 rfl) ?_
          refine lv_iload hx hb dL_at_27 (lv_at hl 4 rfl) ?_
          refine lv_iload_n hx hb dL_at_29 rfl (lv_at hl 1 rfl) ?_
          obtain ⟨v15, k16, h⟩ := it_b h
          refine kT_z (As := [.ref (ad 30), .int v2, .int l1]) (rest := [.int v1]) hx_E hw (c_L_isAt l K N hN ad hI v2 l1 σ k16) mi_L_isAt sm_L_isAt ml_L_26 rfl ⟨⟨Nat.le_of_ble_eq_true rfl, Nat.le_of_ble_eq_true rfl⟩, rfl, rfl⟩ ⟨Nat.zero_le _, Nat.zero_le _⟩ hl.1 rfl (Nat.le_of_ble_eq_true rfl) dL_at_30 (fun z17 H locs hw => ?_)
          refine lv_if_eq (tgt := 40) hx hb dL_at_33 (by decide) (fun c18 => ?_) (fun c18 => ?_)
          · replace h := it_t c18 h
            refine lv_iconst (v := 0) hx hb dL_at_40 (by decide) ?_
            have e9 := Option.some.inj h
            subst e9
            exact hJ13 _ rfl (Or.inl rfl) H locs ls hw (lv_sub hl [0, 1, 2, 4] rfl)
          · replace h := it_f c18 h
            refine lv_iconst (v := 1) hx hb dL_at_36 (by decide) ?_
            refine lv_goto (tgt := 41) hx hb dL_at_37 (by decide) ?_
            have e9 := Option.some.inj h
            subst e9
            exact hJ13 _ rfl (Or.inr rfl) H locs ls hw (lv_sub hl [0, 1, 2, 4] rfl)
  exact hL4 600 _ _   H locs ls h9 hw (lv_sub hl [2, 3, 4, 1, 0] rfl)
set_option maxHeartbeats 4000000 in
set_option maxRecDepth 100000 in
theorem c_L_firstCell (l : Launch) (K : vK) (N : Nat) (hN : 31 ≤ N) (ad : Nat → Nat) (hI : adInj N ad) (σ : vSt) {r : Int32} (h : f_L_firstCell σ = some r) : MCi l yL_firstCell (wsY yL_firstCell cL_firstCell 2 (some .int)) (rmF 5 95) K N ad (cC K ad) [.ref (ad 30)] σ r σ := by
  refine MCi_of (own := RL) (plainFor_of_name (by decide)) hI rfl (Nat.le_of_ble_eq_true rfl) ?_
  intro p e s m args below meth c A Q hx_E hE H locs ls hw hl
  have hx := hx_E.1; have hb := hx_E.2.1; have hown := hx_E.2.2.2.1; have hts := hx_E.2.2.2.2.1
  replace hl : lv_has ls 2 [(0, .ref (ad 30))] := hl
  have h30 : 30 ≤ N := Nat.le_trans (by decide) hN
  have hI30 : adInj 30 ad := adInj_le h30 hI
  unfold f_L_firstCell at h
  refine lv_iconst (v := 0) hx hb dL_firstCell_0 (by decide) ?_
  refine lv_istore_n (lv' := [(1, .int (0 : Int32)), (0, .ref (ad 30))]) hx hb dL_firstCell_1 rfl hl (by decide) rfl (fun ls hl => ?_)
  obtain ⟨φ4, h9, h_φ4⟩ := it_b h
  have hJ3 : ∀ (_u : Unit), .inr () = φ4 → ∀ (H : Heap) (locs : List Loc) (ls : Array Slot), PW K N ad (cC K ad) A s.heap σ H locs → lv_has ls 2 [] → W p l e (rmF 5 95) s m args below meth c H locs 0 0 Q (F0 m 59 ls []) := by
    intro _u e9 H locs ls hw hl
    subst e9
    replace h := h_φ4
    refine lv_iconst (v := -1) hx hb dL_firstCell_59 (by decide) ?_
    exact hE hw (Option.some.inj h) rfl dL_firstCell_60
  have hL2 : ∀ (n9 : Nat) (v1 : Int32), ∀ (H : Heap) (locs : List Loc) (ls : Array Slot), f_L_firstCell_2 σ n9 v1 = some φ4 → PW K N ad (cC K ad) A s.heap σ H locs → lv_has ls 2 [(0, .ref (ad 30)), (1, .int v1)] → W p l e (rmF 5 95) s m args below meth c H locs 0 0 Q (F0 m 2 ls []) := by
    intro n9
    induction n9 with
    | zero => intro v1 H locs ls h hw hl; rw [f_L_firstCell_2.eq_1] at h; exact it_n h
    | succ n9 ih =>
      intro v1 H locs ls h hw hl
      rw [f_L_firstCell_2.eq_2] at h
      refine lv_iload_n hx hb dL_firstCell_2 rfl (lv_at hl 1 rfl) ?_
      refine lv_aload_n hx hb dL_firstCell_3 rfl (lv_at hl 0 rfl) ?_
      refine lv_iconst (v := 0) hx hb dL_firstCell_4 (by decide) ?_
      refine acC_30 hx_E hw hN (by decide) rfl dL_firstCell_5 ?_
      refine lv_aload_n hx hb dL_firstCell_6 rfl (lv_at hl 0 rfl) ?_
      refine lv_iconst (v := 1) hx hb dL_firstCell_7 (by decide) ?_
      refine acC_30 hx_E hw hN (by decide) rfl dL_firstCell_8 ?_
      refine lv_imul hx hb dL_firstCell_9 ?_
      refine lv_icmp_ge (tgt := 59) hx hb dL_firstCell_10 (by decide) (fun c5 => ?_) (fun c5 => ?_)
      · replace h := it_t c5 h
        have e9 := Option.some.inj h
        subst e9
        exact hJ3 () rfl  H locs ls hw (lv_sub hl [] rfl)
      · replace h := it_f c5 h
        refine lv_aload_n hx hb dL_firstCell_13 rfl (lv_at hl 0 rfl) ?_
        refine lv_iconst (v := 2) hx hb dL_firstCell_14 (by decide) ?_
        refine lv_iload_n hx hb dL_firstCell_15 rfl (lv_at hl 1 rfl) ?_
        refine lv_iadd hx hb dL_firstCell_16 ?_
        obtain ⟨g6, h⟩ := it_g h
        refine aC_30 hx_E hw hN g6 dL_firstCell_17 ?_
        refine lv_if_lt (tgt := 53) hx hb dL_firstCell_18 (by decide) (fun c7 => ?_) (fun c7 => ?_)
        · replace h := it_t c7 h
          refine lv_iinc (v := (v1 + 1)) (lv' := [(1, .int (v1 + 1)), (0, .ref (ad 30))]) hx hb dL_firstCell_53 hl (k := 1) rfl rfl (by decide) rfl (fun ls hl => ?_)
          refine lv_goto (tgt := 2) hx hb dL_firstCell_56 (by decide) ?_
          exact ih _    H locs ls h hw (lv_sub hl [1, 0] rfl)
        · replace h := it_f c7 h
          refine lv_aload_n hx hb dL_firstCell_21 rfl (lv_at hl 0 rfl) ?_
          refine lv_iload_n hx hb dL_firstCell_22 rfl (lv_at hl 1 rfl) ?_
          refine lv_iconst (v := 1) hx hb dL_firstCell_23 (by decide) ?_
          obtain ⟨v8, k9, h⟩ := it_b h
          refine kT_i (As := [.ref (ad 30), .int v1, .int (1 : Int32)]) (rest := []) hx_E hw (c_L_around l K N hN ad hI v1 (1 : Int32) σ k9) mi_L_around sm_L_around ml_L_29 rfl ⟨⟨Nat.le_of_ble_eq_true rfl, Nat.le_of_ble_eq_true rfl⟩, rfl, rfl⟩ ⟨Nat.zero_le _, Nat.zero_le _⟩ hl.1 rfl (Nat.le_of_ble_eq_true rfl) dL_firstCell_24 (fun H locs hw => ?_)
          refine lv_aload_n hx hb dL_firstCell_27 rfl (lv_at hl 0 rfl) ?_
          refine lv_iconst (v := 2) hx hb dL_firstCell_28 (by decide) ?_
          refine lv_iload_n hx hb dL_firstCell_29 rfl (lv_at hl 1 rfl) ?_
          refine lv_iadd hx hb dL_firstCell_30 ?_
          obtain ⟨g10, h⟩ := it_g h
          refine aC_30 hx_E hw hN g10 dL_firstCell_31 ?_
          refine lv_icmp_gt (tgt := 51) hx hb dL_firstCell_32 (by decide) (fun c11 => ?_) (fun c11 => ?_)
          · replace h := it_t c11 h
            refine lv_iload_n hx hb dL_firstCell_51 rfl (lv_at hl 1 rfl) ?_
            have e9 := Option.some.inj h
            subst e9
            replace h := h_φ4
            exact hE hw (Option.some.inj h) rfl dL_firstCell_52
          · replace h := it_f c11 h
            refine lv_aload_n hx hb dL_firstCell_35 rfl (lv_at hl 0 rfl) ?_
            refine lv_iload_n hx hb dL_firstCell_36 rfl (lv_at hl 1 rfl) ?_
            refine lv_iconst (v := 2) hx hb dL_firstCell_37 (by decide) ?_
            obtain ⟨v12, k13, h⟩ := it_b h
            refine kT_i (As := [.ref (ad 30), .int v1, .int (2 : Int32)]) (rest := []) hx_E hw (c_L_around l K N hN ad hI v1 (2 : Int32) σ k13) mi_L_around sm_L_around ml_L_29 rfl ⟨⟨Nat.le_of_ble_eq_true rfl, Nat.le_of_ble_eq_true rfl⟩, rfl, rfl⟩ ⟨Nat.zero_le _, Nat.zero_le _⟩ hl.1 rfl (Nat.le_of_ble_eq_true rfl) dL_firstCell_38 (fun H locs hw => ?_)
            refine lv_iconst (v := 4) hx hb dL_firstCell_41 (by decide) ?_
            refine lv_aload_n hx hb dL_firstCell_42 rfl (lv_at hl 0 rfl) ?_
            refine lv_iconst (v := 2) hx hb dL_firstCell_43 (by decide) ?_
            refine lv_iload_n hx hb dL_firstCell_44 rfl (lv_at hl 1 rfl) ?_
            refine lv_iadd hx hb dL_firstCell_45 ?_
            obtain ⟨g14, h⟩ := it_g h
            refine aC_30 hx_E hw hN g14 dL_firstCell_46 ?_
            refine lv_isub hx hb dL_firstCell_47 ?_
            refine lv_icmp_le (tgt := 53) hx hb dL_firstCell_48 (by decide) (fun c15 => ?_) (fun c15 => ?_)
            · replace h := it_t c15 h
              refine lv_iinc (v := (v1 + 1)) (lv' := [(1, .int (v1 + 1)), (0, .ref (ad 30))]) hx hb dL_firstCell_53 hl (k := 1) rfl rfl (by decide) rfl (fun ls hl => ?_)
              refine lv_goto (tgt := 2) hx hb dL_firstCell_56 (by decide) ?_
              exact ih _    H locs ls h hw (lv_sub hl [1, 0] rfl)
            · replace h := it_f c15 h
              refine lv_iload_n hx hb dL_firstCell_51 rfl (lv_at hl 1 rfl) ?_
              have e9 := Option.some.inj h
              subst e9
              replace h := h_φ4
              exact hE hw (Option.some.inj h) rfl dL_firstCell_52
  exact hL2 600 _   H locs ls h9 hw (lv_sub hl [1, 0] rfl)
set_option maxHeartbeats 4000000 in
set_option maxRecDepth 100000 in
theorem c_L_firstCorner (l : Launch) (K : vK) (N : Nat) (hN : 31 ≤ N) (ad : Nat → Nat) (hI : adInj N ad) (σ : vSt) {r : Int32} (h : f_L_firstCorner σ = some r) : MCi l yL_firstCorner (wsY yL_firstCorner cL_firstCorner 2 (some .int)) (rmF 5 90) K N ad (cC K ad) [.ref (ad 30)] σ r σ := by
  refine MCi_of (own := RL) (plainFor_of_name (by decide)) hI rfl (Nat.le_of_ble_eq_true rfl) ?_
  intro p e s m args below meth c A Q hx_E hE H locs ls hw hl
  have hx := hx_E.1; have hb := hx_E.2.1; have hown := hx_E.2.2.2.1; have hts := hx_E.2.2.2.2.1
  replace hl : lv_has ls 2 [(0, .ref (ad 30))] := hl
  have h30 : 30 ≤ N := Nat.le_trans (by decide) hN
  have hI30 : adInj 30 ad := adInj_le h30 hI
  unfold f_L_firstCorner at h
  refine lv_iconst (v := 0) hx hb dL_firstCorner_0 (by decide) ?_
  refine lv_istore_n (lv' := [(1, .int (0 : Int32)), (0, .ref (ad 30))]) hx hb dL_firstCorner_1 rfl hl (by decide) rfl (fun ls hl => ?_)
  obtain ⟨φ4, h9, h_φ4⟩ := it_b h
  have hJ3 : ∀ (_u : Unit), .inr () = φ4 → ∀ (H : Heap) (locs : List Loc) (ls : Array Slot), PW K N ad (cC K ad) A s.heap σ H locs → lv_has ls 2 [] → W p l e (rmF 5 90) s m args below meth c H locs 0 0 Q (F0 m 47 ls []) := by
    intro _u e9 H locs ls hw hl
    subst e9
    replace h := h_φ4
    refine lv_iconst (v := -1) hx hb dL_firstCorner_47 (by decide) ?_
    exact hE hw (Option.some.inj h) rfl dL_firstCorner_48
  have hL2 : ∀ (n9 : Nat) (v1 : Int32), ∀ (H : Heap) (locs : List Loc) (ls : Array Slot), f_L_firstCorner_2 σ n9 v1 = some φ4 → PW K N ad (cC K ad) A s.heap σ H locs → lv_has ls 2 [(0, .ref (ad 30)), (1, .int v1)] → W p l e (rmF 5 90) s m args below meth c H locs 0 0 Q (F0 m 2 ls []) := by
    intro n9
    induction n9 with
    | zero => intro v1 H locs ls h hw hl; rw [f_L_firstCorner_2.eq_1] at h; exact it_n h
    | succ n9 ih =>
      intro v1 H locs ls h hw hl
      rw [f_L_firstCorner_2.eq_2] at h
      refine lv_iload_n hx hb dL_firstCorner_2 rfl (lv_at hl 1 rfl) ?_
      refine lv_aload_n hx hb dL_firstCorner_3 rfl (lv_at hl 0 rfl) ?_
      obtain ⟨v5, k6, h⟩ := it_b h
      refine kT_i (As := [.ref (ad 30)]) (rest := [.int v1]) hx_E hw (c_L_corners l K N hN ad hI  σ k6) mi_L_corners sm_L_corners ml_L_33 rfl ⟨⟨Nat.le_of_ble_eq_true rfl, Nat.le_of_ble_eq_true rfl⟩, rfl, rfl⟩ ⟨Nat.zero_le _, Nat.zero_le _⟩ hl.1 rfl (Nat.le_of_ble_eq_true rfl) dL_firstCorner_4 (fun H locs hw => ?_)
      refine lv_icmp_ge (tgt := 47) hx hb dL_firstCorner_7 (by decide) (fun c7 => ?_) (fun c7 => ?_)
      · replace h := it_t c7 h
        have e9 := Option.some.inj h
        subst e9
        exact hJ3 () rfl  H locs ls hw (lv_sub hl [] rfl)
      · replace h := it_f c7 h
        refine lv_aload_n hx hb dL_firstCorner_10 rfl (lv_at hl 0 rfl) ?_
        refine lv_iload_n hx hb dL_firstCorner_11 rfl (lv_at hl 1 rfl) ?_
        refine lv_iconst (v := 1) hx hb dL_firstCorner_12 (by decide) ?_
        obtain ⟨v8, k9, h⟩ := it_b h
        refine kT_i (As := [.ref (ad 30), .int v1, .int (1 : Int32)]) (rest := []) hx_E hw (c_L_at l K N hN ad hI v1 (1 : Int32) σ k9) mi_L_at sm_L_at ml_L_36 rfl ⟨⟨Nat.le_of_ble_eq_true rfl, Nat.le_of_ble_eq_true rfl⟩, rfl, rfl⟩ ⟨Nat.zero_le _, Nat.zero_le _⟩ hl.1 rfl (Nat.le_of_ble_eq_true rfl) dL_firstCorner_13 (fun H locs hw => ?_)
        refine lv_iconst (v := 2) hx hb dL_firstCorner_16 (by decide) ?_
        refine lv_icmp_gt (tgt := 39) hx hb dL_firstCorner_17 (by decide) (fun c10 => ?_) (fun c10 => ?_)
        · replace h := it_t c10 h
          refine lv_iload_n hx hb dL_firstCorner_39 rfl (lv_at hl 1 rfl) ?_
          have e9 := Option.some.inj h
          subst e9
          replace h := h_φ4
          exact hE hw (Option.some.inj h) rfl dL_firstCorner_40
        · replace h := it_f c10 h
          refine lv_aload_n hx hb dL_firstCorner_20 rfl (lv_at hl 0 rfl) ?_
          refine lv_iload_n hx hb dL_firstCorner_21 rfl (lv_at hl 1 rfl) ?_
          refine lv_iconst (v := 1) hx hb dL_firstCorner_22 (by decide) ?_
          obtain ⟨v11, k12, h⟩ := it_b h
          refine kT_i (As := [.ref (ad 30), .int v1, .int (1 : Int32)]) (rest := []) hx_E hw (c_L_at l K N hN ad hI v1 (1 : Int32) σ k12) mi_L_at sm_L_at ml_L_36 rfl ⟨⟨Nat.le_of_ble_eq_true rfl, Nat.le_of_ble_eq_true rfl⟩, rfl, rfl⟩ ⟨Nat.zero_le _, Nat.zero_le _⟩ hl.1 rfl (Nat.le_of_ble_eq_true rfl) dL_firstCorner_23 (fun H locs hw => ?_)
          refine lv_iconst (v := 1) hx hb dL_firstCorner_26 (by decide) ?_
          refine lv_icmp_ne (tgt := 41) hx hb dL_firstCorner_27 (by decide) (fun c13 => ?_) (fun c13 => ?_)
          · replace h := it_f c13 h
            refine lv_iinc (v := (v1 + 1)) (lv' := [(1, .int (v1 + 1)), (0, .ref (ad 30))]) hx hb dL_firstCorner_41 hl (k := 1) rfl rfl (by decide) rfl (fun ls hl => ?_)
            refine lv_goto (tgt := 2) hx hb dL_firstCorner_44 (by decide) ?_
            exact ih _    H locs ls h hw (lv_sub hl [1, 0] rfl)
          · replace h := it_t c13 h
            refine lv_aload_n hx hb dL_firstCorner_30 rfl (lv_at hl 0 rfl) ?_
            refine lv_iload_n hx hb dL_firstCorner_31 rfl (lv_at hl 1 rfl) ?_
            refine lv_iconst (v := 0) hx hb dL_firstCorner_32 (by decide) ?_
            obtain ⟨v14, k15, h⟩ := it_b h
            refine kT_i (As := [.ref (ad 30), .int v1, .int (0 : Int32)]) (rest := []) hx_E hw (c_L_at l K N hN ad hI v1 (0 : Int32) σ k15) mi_L_at sm_L_at ml_L_36 rfl ⟨⟨Nat.le_of_ble_eq_true rfl, Nat.le_of_ble_eq_true rfl⟩, rfl, rfl⟩ ⟨Nat.zero_le _, Nat.zero_le _⟩ hl.1 rfl (Nat.le_of_ble_eq_true rfl) dL_firstCorner_33 (fun H locs hw => ?_)
            refine lv_if_ne (tgt := 41) hx hb dL_firstCorner_36 (by decide) (fun c16 => ?_) (fun c16 => ?_)
            · replace h := it_f c16 h
              refine lv_iinc (v := (v1 + 1)) (lv' := [(1, .int (v1 + 1)), (0, .ref (ad 30))]) hx hb dL_firstCorner_41 hl (k := 1) rfl rfl (by decide) rfl (fun ls hl => ?_)
              refine lv_goto (tgt := 2) hx hb dL_firstCorner_44 (by decide) ?_
              exact ih _    H locs ls h hw (lv_sub hl [1, 0] rfl)
            · replace h := it_t c16 h
              refine lv_iload_n hx hb dL_firstCorner_39 rfl (lv_at hl 1 rfl) ?_
              have e9 := Option.some.inj h
              subst e9
              replace h := h_φ4
              exact hE hw (Option.some.inj h) rfl dL_firstCorner_40
  exact hL2 600 _   H locs ls h9 hw (lv_sub hl [1, 0] rfl)
