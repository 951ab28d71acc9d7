set_option maxHeartbeats 4000000 in
set_option maxRecDepth 100000 in
theorem c_X0_begin (l : Launch) (K : vK) (N : Nat) (ad : Nat → Nat) (hI : adInj N ad) (b : Nat) (hB : isB N b) (l1 : Int64) (l3 : Int64) (σ : vSt) {σ' : vSt} (h : f_X0_begin b l1 l3 σ = some σ') : MCv l yX0_begin (wsY yX0_begin cX0_begin 6 none) (rmF 4 71) K N ad (cC K ad) [.ref (ad b), .long l1, .long l3] σ σ' := by
  refine MCv_of (own := RX0) (plainFor_of_name (by decide)) hI rfl (Nat.le_of_ble_eq_true rfl) ?_
  intro p e s m args below meth c A Q hx_E hE H locs ls hw hl
  have hx := hx_E.1; have hb := hx_E.2.1; have hown := hx_E.2.2.2.1; have hts := hx_E.2.2.2.2.1
  replace hl : lv_has ls 6 [(0, .ref (ad b)), (1, .long l1), (3, .long l3)] := hl
  have hN := isB_n6 hB
  unfold f_X0_begin at h
  refine lv_aload_n hx hb dX0_begin_0 rfl (lv_at hl 0 rfl) ?_
  refine lv_lload_n hx hb dX0_begin_1 rfl (lv_at hl 1 rfl) ?_
  refine pC_B_2 hx_E hw hB fl_X0_47 dX0_begin_2 (fun H locs hw => ?_)
  refine lv_aload_n hx hb dX0_begin_5 rfl (lv_at hl 0 rfl) ?_
  refine lv_lload_n hx hb dX0_begin_6 rfl (lv_at hl 2 rfl) ?_
  refine pC_B_3 hx_E hw hB fl_X0_50 dX0_begin_7 (fun H locs hw => ?_)
  refine lv_aload_n hx hb dX0_begin_10 rfl (lv_at hl 0 rfl) ?_
  refine lv_iconst (v := 0) hx hb dX0_begin_11 (by decide) ?_
  refine pC_B_4 hx_E hw hB fl_X0_29 dX0_begin_12 (fun H locs hw => ?_)
  refine lv_aload_n hx hb dX0_begin_15 rfl (lv_at hl 0 rfl) ?_
  refine lv_iconst (v := 0) hx hb dX0_begin_16 (by decide) ?_
  refine pC_B_5 hx_E hw hB fl_X0_53 dX0_begin_17 (fun H locs hw => ?_)
  refine lv_aload_n hx hb dX0_begin_20 rfl (lv_at hl 0 rfl) ?_
  refine lv_iconst (v := 0) hx hb dX0_begin_21 (by decide) ?_
  refine pC_B_6 hx_E hw hB fl_X0_32 dX0_begin_22 (fun H locs hw => ?_)
  refine lv_aload_n hx hb dX0_begin_25 rfl (lv_at hl 0 rfl) ?_
  refine lv_iconst (v := 0) hx hb dX0_begin_26 (by decide) ?_
  refine pC_B_7 hx_E hw hB fl_X0_56 dX0_begin_27 (fun H locs hw => ?_)
  refine lv_iconst (v := 0) hx hb dX0_begin_30 (by decide) ?_
  refine lv_istore (lv' := [(5, .int (0 : Int32)), (0, .ref (ad b)), (1, .long l1), (3, .long l3)]) hx hb dX0_begin_31 hl (by decide) rfl (fun ls hl => ?_)
  obtain ⟨σ1, e_σ1, h⟩ := it_b h
  replace hw := PW_cast (Option.some.inj e_σ1) hw
  obtain ⟨φ7, h9, h_φ7⟩ := it_b h
  have hJ6 : ∀ (σ4 : vSt), σ4 = φ7 → ∀ (H : Heap) (locs : List Loc) (ls : Array Slot), PW K N ad (cC K ad) A s.heap σ4 H locs → lv_has ls 6 [(0, .ref (ad b))] → W p l e (rmF 4 71) s m args below meth c H locs 0 0 Q (F0 m 53 ls []) := by
    intro σ4 e9 H locs ls hw hl
    subst e9
    replace h := h_φ7
    refine lv_iconst (v := 0) hx hb dX0_begin_53 (by decide) ?_
    refine lv_istore (lv' := [(5, .int (0 : Int32)), (0, .ref (ad b))]) hx hb dX0_begin_54 hl (by decide) rfl (fun ls hl => ?_)
    obtain ⟨φ15, h9, h_φ15⟩ := it_b h
    have hJ14 : ∀ (σ12 : vSt), σ12 = φ15 → ∀ (H : Heap) (locs : List Loc) (ls : Array Slot), PW K N ad (cC K ad) A s.heap σ12 H locs → lv_has ls 6 [(0, .ref (ad b))] → W p l e (rmF 4 71) s m args below meth c H locs 0 0 Q (F0 m 80 ls []) := by
      intro σ12 e9 H locs ls hw hl
      subst e9
      replace h := h_φ15
      refine lv_iconst (v := 0) hx hb dX0_begin_80 (by decide) ?_
      refine lv_istore (lv' := [(5, .int (0 : Int32)), (0, .ref (ad b))]) hx hb dX0_begin_81 hl (by decide) rfl (fun ls hl => ?_)
      obtain ⟨φ24, h9, h_φ24⟩ := it_b h
      have hJ23 : ∀ (σ21 : vSt), σ21 = φ24 → ∀ (H : Heap) (locs : List Loc) (ls : Array Slot), PW K N ad (cC K ad) A s.heap σ21 H locs → lv_has ls 6 [(0, .ref (ad b))] → W p l e (rmF 4 71) s m args below meth c H locs 0 0 Q (F0 m 107 ls []) := by
        intro σ21 e9 H locs ls hw hl
        subst e9
        replace h := h_φ24
        refine lv_aload_n hx hb dX0_begin_107 rfl (lv_at hl 0 rfl) ?_
        obtain ⟨σ28, k29, h⟩ := it_b h
        refine kV_v (As := []) (rest := []) (q := b) hx_E hw (c_X0_lookAtRings l K N ad hI b hB  σ21 k29) mi_X0_lookAtRings mv_X0_lookAtRings ml_X0_74 (isB_lt hB) (cC_B hB _ _) rfl rfl ⟨⟨Nat.le_of_ble_eq_true rfl, Nat.le_of_ble_eq_true rfl⟩, rfl, rfl⟩ ⟨Nat.zero_le _, Nat.zero_le _⟩ hl.1 rfl (Nat.le_of_ble_eq_true rfl) dX0_begin_108 (fun H locs hw => ?_)
        exact hE hw (Option.some.inj h) dX0_begin_111
      have hL22 : ∀ (n9 : Nat) (v19 : Int32) (σ20 : vSt), ∀ (H : Heap) (locs : List Loc) (ls : Array Slot), f_X0_begin_83 b n9 v19 σ20 = some φ24 → PW K N ad (cC K ad) A s.heap σ20 H locs → lv_has ls 6 [(0, .ref (ad b)), (5, .int v19)] → W p l e (rmF 4 71) s m args below meth c H locs 0 0 Q (F0 m 83 ls []) := by
        intro n9
        induction n9 with
        | zero => intro v19 σ20 H locs ls h hw hl; rw [f_X0_begin_83.eq_1] at h; exact it_n h
        | succ n9 ih =>
          intro v19 σ20 H locs ls h hw hl
          rw [f_X0_begin_83.eq_2] at h
          refine lv_iload hx hb dX0_begin_83 (lv_at hl 1 rfl) ?_
          refine lv_aload_n hx hb dX0_begin_85 rfl (lv_at hl 0 rfl) ?_
          refine gC_B_0 hx_E hw hB fl_X0_25 dX0_begin_86 ?_
          refine gC_0_8 hx_E hw hN fl_X0_68 dX0_begin_89 ?_
          refine lv_icmp_ge (tgt := 107) hx hb dX0_begin_92 (by decide) (fun c25 => ?_) (fun c25 => ?_)
          · replace h := it_t c25 h
            have e9 := Option.some.inj h
            subst e9
            exact hJ23 _ rfl  H locs ls hw (lv_sub hl [0] rfl)
          · replace h := it_f c25 h
            refine lv_aload_n hx hb dX0_begin_95 rfl (lv_at hl 0 rfl) ?_
            refine lv_iload hx hb dX0_begin_96 (lv_at hl 1 rfl) ?_
            obtain ⟨σ26, k27, h⟩ := it_b h
            refine kV_v (As := [.int v19]) (rest := []) (q := b) hx_E hw (c_X0_lookAtCorner l K N ad hI b hB v19 σ20 k27) mi_X0_lookAtCorner mv_X0_lookAtCorner ml_X0_71 (isB_lt hB) (cC_B hB _ _) rfl rfl ⟨⟨Nat.le_of_ble_eq_true rfl, Nat.le_of_ble_eq_true rfl⟩, rfl, rfl⟩ ⟨Nat.zero_le _, Nat.zero_le _⟩ hl.1 rfl (Nat.le_of_ble_eq_true rfl) dX0_begin_98 (fun H locs hw => ?_)
            refine lv_iinc (v := (v19 + 1)) (lv' := [(5, .int (v19 + 1)), (0, .ref (ad b))]) hx hb dX0_begin_101 hl (k := 1) rfl rfl (by decide) rfl (fun ls hl => ?_)
            refine lv_goto (tgt := 83) hx hb dX0_begin_104 (by decide) ?_
            exact ih _ _   H locs ls h hw (lv_sub hl [1, 0] rfl)
      exact hL22 600 _ _   H locs ls h9 hw (lv_sub hl [1, 0] rfl)
    have hL13 : ∀ (n9 : Nat) (v10 : Int32) (σ11 : vSt), ∀ (H : Heap) (locs : List Loc) (ls : Array Slot), f_X0_begin_56 b n9 v10 σ11 = some φ15 → PW K N ad (cC K ad) A s.heap σ11 H locs → lv_has ls 6 [(0, .ref (ad b)), (5, .int v10)] → W p l e (rmF 4 71) s m args below meth c H locs 0 0 Q (F0 m 56 ls []) := by
      intro n9
      induction n9 with
      | zero => intro v10 σ11 H locs ls h hw hl; rw [f_X0_begin_56.eq_1] at h; exact it_n h
      | succ n9 ih =>
        intro v10 σ11 H locs ls h hw hl
        rw [f_X0_begin_56.eq_2] at h
        refine lv_iload hx hb dX0_begin_56 (lv_at hl 1 rfl) ?_
        refine lv_aload_n hx hb dX0_begin_58 rfl (lv_at hl 0 rfl) ?_
        refine gC_B_0 hx_E hw hB fl_X0_25 dX0_begin_59 ?_
        refine gC_0_7 hx_E hw hN fl_X0_59 dX0_begin_62 ?_
        refine lv_icmp_ge (tgt := 80) hx hb dX0_begin_65 (by decide) (fun c16 => ?_) (fun c16 => ?_)
        · replace h := it_t c16 h
          have e9 := Option.some.inj h
          subst e9
          exact hJ14 _ rfl  H locs ls hw (lv_sub hl [0] rfl)
        · replace h := it_f c16 h
          refine lv_aload_n hx hb dX0_begin_68 rfl (lv_at hl 0 rfl) ?_
          refine lv_iload hx hb dX0_begin_69 (lv_at hl 1 rfl) ?_
          obtain ⟨σ17, k18, h⟩ := it_b h
          refine kV_v (As := [.int v10]) (rest := []) (q := b) hx_E hw (c_X0_lookAtCell l K N ad hI b hB v10 σ11 k18) mi_X0_lookAtCell mv_X0_lookAtCell ml_X0_64 (isB_lt hB) (cC_B hB _ _) rfl rfl ⟨⟨Nat.le_of_ble_eq_true rfl, Nat.le_of_ble_eq_true rfl⟩, rfl, rfl⟩ ⟨Nat.zero_le _, Nat.zero_le _⟩ hl.1 rfl (Nat.le_of_ble_eq_true rfl) dX0_begin_71 (fun H locs hw => ?_)
          refine lv_iinc (v := (v10 + 1)) (lv' := [(5, .int (v10 + 1)), (0, .ref (ad b))]) hx hb dX0_begin_74 hl (k := 1) rfl rfl (by decide) rfl (fun ls hl => ?_)
          refine lv_goto (tgt := 56) hx hb dX0_begin_77 (by decide) ?_
          exact ih _ _   H locs ls h hw (lv_sub hl [1, 0] rfl)
    exact hL13 600 _ _   H locs ls h9 hw (lv_sub hl [1, 0] rfl)
  have hL5 : ∀ (n9 : Nat) (v2 : Int32) (σ3 : vSt), ∀ (H : Heap) (locs : List Loc) (ls : Array Slot), f_X0_begin_33 b n9 v2 σ3 = some φ7 → PW K N ad (cC K ad) A s.heap σ3 H locs → lv_has ls 6 [(0, .ref (ad b)), (5, .int v2)] → W p l e (rmF 4 71) s m args below meth c H locs 0 0 Q (F0 m 33 ls []) := by
    intro n9
    induction n9 with
    | zero => intro v2 σ3 H locs ls h hw hl; rw [f_X0_begin_33.eq_1] at h; exact it_n h
    | succ n9 ih =>
      intro v2 σ3 H locs ls h hw hl
      rw [f_X0_begin_33.eq_2] at h
      refine lv_iload hx hb dX0_begin_33 (lv_at hl 1 rfl) ?_
      refine lv_iconst (v := 5) hx hb dX0_begin_35 (by decide) ?_
      refine lv_icmp_ge (tgt := 53) hx hb dX0_begin_36 (by decide) (fun c8 => ?_) (fun c8 => ?_)
      · replace h := it_t c8 h
        have e9 := Option.some.inj h
        subst e9
        exact hJ6 _ rfl  H locs ls hw (lv_sub hl [0] rfl)
      · replace h := it_f c8 h
        refine lv_aload_n hx hb dX0_begin_39 rfl (lv_at hl 0 rfl) ?_
        refine gC_B_1 hx_E hw hB fl_X0_9 dX0_begin_40 ?_
        refine lv_iload hx hb dX0_begin_43 (lv_at hl 1 rfl) ?_
        refine lv_iconst (v := 0) hx hb dX0_begin_45 (by decide) ?_
        obtain ⟨g9, h⟩ := it_g h
        refine sC_R hx_E hw hB g9 dX0_begin_46 (fun H locs hw => ?_)
        refine lv_iinc (v := (v2 + 1)) (lv' := [(5, .int (v2 + 1)), (0, .ref (ad b))]) hx hb dX0_begin_47 hl (k := 1) rfl rfl (by decide) rfl (fun ls hl => ?_)
        refine lv_goto (tgt := 33) hx hb dX0_begin_50 (by decide) ?_
        exact ih _ _   H locs ls h hw (lv_sub hl [1, 0] rfl)
  exact hL5 600 _ _   H locs ls h9 hw (lv_sub hl [1, 0] rfl)
set_option maxHeartbeats 4000000 in
set_option maxRecDepth 100000 in
theorem c_X6_setPuzzle (l : Launch) (K : vK) (ad : Nat → Nat) (hI : adInj 30 ad) (σ : vSt) {r : Int32} {σ' : vSt} (h : f_X6_setPuzzle σ = some (r, σ')) : MCi l yX6_setPuzzle (wsY yX6_setPuzzle cX6_setPuzzle 2 (some .int)) (rmF 5 97) K 30 ad (cC K ad) [.ref (ad 8)] σ r σ' := by
  refine MCi_of (own := RX6) (plainFor_of_name (by decide)) hI rfl (Nat.le_of_ble_eq_true rfl) ?_
  intro p e s m args below meth c A Q hx_E hE H locs ls hw hl
  have hx := hx_E.1; have hb := hx_E.2.1; have hown := hx_E.2.2.2.1; have hts := hx_E.2.2.2.2.1
  replace hl : lv_has ls 2 [(0, .ref (ad 8))] := hl
  unfold f_X6_setPuzzle at h
  refine lv_aload_n hx hb dX6_setPuzzle_0 rfl (lv_at hl 0 rfl) ?_
  refine gC_8_5 hx_E hw fl_X6_61 dX6_setPuzzle_1 ?_
  obtain ⟨⟨v1, σ2⟩, k3, h⟩ := it_b h
  refine kV_i (As := []) (rest := []) (q := 27) hx_E hw (c_X5_read l K ad hI   σ k3) mi_X5_read mv_X5_read ml_X6_77 (by decide) rfl rfl rfl ⟨⟨Nat.le_of_ble_eq_true rfl, Nat.le_of_ble_eq_true rfl⟩, rfl, rfl⟩ ⟨Nat.zero_le _, Nat.zero_le _⟩ hl.1 rfl (Nat.le_of_ble_eq_true rfl) dX6_setPuzzle_4 (fun H locs hw => ?_)
  refine lv_iconst (v := -1) hx hb dX6_setPuzzle_7 (by decide) ?_
  refine lv_icmp_eq (tgt := 14) hx hb dX6_setPuzzle_8 (by decide) (fun c4 => ?_) (fun c4 => ?_)
  · replace h := it_t c4 h
    refine lv_aload_n hx hb dX6_setPuzzle_14 rfl (lv_at hl 0 rfl) ?_
    refine gC_8_4 hx_E hw fl_X6_54 dX6_setPuzzle_15 ?_
    refine lv_aload_n hx hb dX6_setPuzzle_18 rfl (lv_at hl 0 rfl) ?_
    refine gC_8_0 hx_E hw fl_X6_27 dX6_setPuzzle_19 ?_
    refine lv_aload_n hx hb dX6_setPuzzle_22 rfl (lv_at hl 0 rfl) ?_
    refine gC_8_1 hx_E hw fl_X6_33 dX6_setPuzzle_23 ?_
    refine lv_aload_n hx hb dX6_setPuzzle_26 rfl (lv_at hl 0 rfl) ?_
    refine gC_8_6 hx_E hw fl_X6_65 dX6_setPuzzle_27 ?_
    obtain ⟨σ5, k6, h⟩ := it_b h
    refine kV_v (As := [.ref (ad 0), .ref (ad 6), .ref (ad 9)]) (rest := []) (q := 20) hx_E hw (c_X2_keep l K ad hI   σ2 k6) mi_X2_keep mv_X2_keep ml_X6_81 (by decide) rfl rfl rfl ⟨⟨Nat.le_of_ble_eq_true rfl, Nat.le_of_ble_eq_true rfl⟩, rfl, rfl⟩ ⟨Nat.zero_le _, Nat.zero_le _⟩ hl.1 rfl (Nat.le_of_ble_eq_true rfl) dX6_setPuzzle_30 (fun H locs hw => ?_)
    refine lv_aload_n hx hb dX6_setPuzzle_33 rfl (lv_at hl 0 rfl) ?_
    refine gC_8_0 hx_E hw fl_X6_27 dX6_setPuzzle_34 ?_
    refine lv_aload_n hx hb dX6_setPuzzle_37 rfl (lv_at hl 0 rfl) ?_
    refine gC_8_5 hx_E hw fl_X6_61 dX6_setPuzzle_38 ?_
    refine gC_27_3 hx_E hw fl_X6_85 dX6_setPuzzle_41 ?_
    refine lv_aload_n hx hb dX6_setPuzzle_44 rfl (lv_at hl 0 rfl) ?_
    refine gC_8_5 hx_E hw fl_X6_61 dX6_setPuzzle_45 ?_
    refine gC_27_4 hx_E hw fl_X6_88 dX6_setPuzzle_48 ?_
    obtain ⟨σ7, k8, h⟩ := it_b h
    refine kV_v (As := [.int (gI σ5 27 3), .int (gI σ5 27 4)]) (rest := []) (q := 0) hx_E hw (c_X1_lay l K 30 (by decide) ad hI  (gI σ5 27 3) (gI σ5 27 4) σ5 k8) mi_X1_lay mv_X1_lay ml_X6_10 (by decide) rfl rfl rfl ⟨⟨Nat.le_of_ble_eq_true rfl, Nat.le_of_ble_eq_true rfl⟩, rfl, rfl⟩ ⟨Nat.zero_le _, Nat.zero_le _⟩ hl.1 rfl (Nat.le_of_ble_eq_true rfl) dX6_setPuzzle_51 (fun H locs hw => ?_)
    refine lv_iconst (v := 0) hx hb dX6_setPuzzle_54 (by decide) ?_
    refine lv_istore_n (lv' := [(1, .int (0 : Int32)), (0, .ref (ad 8))]) hx hb dX6_setPuzzle_55 rfl hl (by decide) rfl (fun ls hl => ?_)
    obtain ⟨φ14, h9, h_φ14⟩ := it_b h
    have hJ13 : ∀ (σ11 : vSt), σ11 = φ14 → ∀ (H : Heap) (locs : List Loc) (ls : Array Slot), PW K 30 ad (cC K ad) A s.heap σ11 H locs → lv_has ls 2 [(0, .ref (ad 8))] → W p l e (rmF 5 97) s m args below meth c H locs 0 0 Q (F0 m 91 ls []) := by
      intro σ11 e9 H locs ls hw hl
      subst e9
      replace h := h_φ14
      refine lv_aload_n hx hb dX6_setPuzzle_91 rfl (lv_at hl 0 rfl) ?_
      obtain ⟨σ18, k19, h⟩ := it_b h
      refine kV_v (As := []) (rest := []) (q := 8) hx_E hw (c_X6_forgetMade l K ad hI   σ11 k19) mi_X6_forgetMade mv_X6_forgetMade ml_X6_98 (by decide) rfl rfl rfl ⟨⟨Nat.le_of_ble_eq_true rfl, Nat.le_of_ble_eq_true rfl⟩, rfl, rfl⟩ ⟨Nat.zero_le _, Nat.zero_le _⟩ hl.1 rfl (Nat.le_of_ble_eq_true rfl) dX6_setPuzzle_92 (fun H locs hw => ?_)
      refine lv_aload_n hx hb dX6_setPuzzle_95 rfl (lv_at hl 0 rfl) ?_
      refine gC_8_1 hx_E hw fl_X6_33 dX6_setPuzzle_96 ?_
      refine lv_lconst (v := 0) hx hb dX6_setPuzzle_99 (by decide) ?_
      refine lv_aload_n hx hb dX6_setPuzzle_100 rfl (lv_at hl 0 rfl) ?_
      refine gC_8_0 hx_E hw fl_X6_27 dX6_setPuzzle_101 ?_
      obtain ⟨v20, k21, h⟩ := it_b h
      refine kV_l (As := []) (rest := [.long (0 : Int64), .ref (ad 6)]) (q := 0) hx_E hw (c_X1_allEdges l K 30 (by decide) ad hI   σ18 k21) mi_X1_allEdges mv_X1_allEdges ml_X6_19 (by decide) rfl rfl rfl ⟨⟨Nat.le_of_ble_eq_true rfl, Nat.le_of_ble_eq_true rfl⟩, rfl, rfl⟩ ⟨Nat.zero_le _, Nat.zero_le _⟩ hl.1 rfl (Nat.le_of_ble_eq_true rfl) dX6_setPuzzle_104 (fun H locs hw => ?_)
      obtain ⟨σ22, k23, h⟩ := it_b h
      refine kV_v (As := [.long (0 : Int64), .long v20]) (rest := []) (q := 6) hx_E hw (c_X0_begin l K 30 ad hI 6 isB_6 (0 : Int64) v20 σ18 k23) mi_X0_begin mv_X0_begin ml_X6_23 (by decide) rfl rfl rfl ⟨⟨Nat.le_of_ble_eq_true rfl, Nat.le_of_ble_eq_true rfl⟩, rfl, rfl⟩ ⟨Nat.zero_le _, Nat.zero_le _⟩ hl.1 rfl (Nat.le_of_ble_eq_true rfl) dX6_setPuzzle_107 (fun H locs hw => ?_)
      refine lv_aload_n hx hb dX6_setPuzzle_110 rfl (lv_at hl 0 rfl) ?_
      refine gC_8_0 hx_E hw fl_X6_27 dX6_setPuzzle_111 ?_
      refine gC_0_9 hx_E hw (by decide) fl_X6_101 dX6_setPuzzle_114 ?_
      exact hE hw (congrArg Prod.fst (Option.some.inj h)) (congrArg Prod.snd (Option.some.inj h)) dX6_setPuzzle_117
    have hL12 : ∀ (n9 : Nat) (v9 : Int32) (σ10 : vSt), ∀ (H : Heap) (locs : List Loc) (ls : Array Slot), f_X6_setPuzzle_56  n9 v9 σ10 = some φ14 → PW K 30 ad (cC K ad) A s.heap σ10 H locs → lv_has ls 2 [(0, .ref (ad 8)), (1, .int v9)] → W p l e (rmF 5 97) s m args below meth c H locs 0 0 Q (F0 m 56 ls []) := by
      intro n9
      induction n9 with
      | zero => intro v9 σ10 H locs ls h hw hl; rw [f_X6_setPuzzle_56.eq_1] at h; exact it_n h
      | succ n9 ih =>
        intro v9 σ10 H locs ls h hw hl
        rw [f_X6_setPuzzle_56.eq_2] at h
        refine lv_iload_n hx hb dX6_setPuzzle_56 rfl (lv_at hl 1 rfl) ?_
        refine lv_aload_n hx hb dX6_setPuzzle_57 rfl (lv_at hl 0 rfl) ?_
        refine gC_8_0 hx_E hw fl_X6_27 dX6_setPuzzle_58 ?_
        refine gC_0_7 hx_E hw (by decide) fl_X6_91 dX6_setPuzzle_61 ?_
        refine lv_icmp_ge (tgt := 91) hx hb dX6_setPuzzle_64 (by decide) (fun c15 => ?_) (fun c15 => ?_)
        · replace h := it_t c15 h
          have e9 := Option.some.inj h
          subst e9
          exact hJ13 _ rfl  H locs ls hw (lv_sub hl [0] rfl)
        · replace h := it_f c15 h
          refine lv_aload_n hx hb dX6_setPuzzle_67 rfl (lv_at hl 0 rfl) ?_
          refine gC_8_0 hx_E hw fl_X6_27 dX6_setPuzzle_68 ?_
          refine gC_0_0 hx_E hw (by decide) fl_X6_94 dX6_setPuzzle_71 ?_
          refine lv_iload_n hx hb dX6_setPuzzle_74 rfl (lv_at hl 1 rfl) ?_
          refine lv_aload_n hx hb dX6_setPuzzle_75 rfl (lv_at hl 0 rfl) ?_
          refine gC_8_5 hx_E hw fl_X6_61 dX6_setPuzzle_76 ?_
          refine gC_27_1 hx_E hw fl_X6_97 dX6_setPuzzle_79 ?_
          refine lv_iload_n hx hb dX6_setPuzzle_82 rfl (lv_at hl 1 rfl) ?_
          obtain ⟨g16, h⟩ := it_g h
          refine aC_29 hx_E hw g16 dX6_setPuzzle_83 ?_
          obtain ⟨g17, h⟩ := it_g h
          refine sC_1 hx_E hw (by decide) g17 dX6_setPuzzle_84 (fun H locs hw => ?_)
          refine lv_iinc (v := (v9 + 1)) (lv' := [(1, .int (v9 + 1)), (0, .ref (ad 8))]) hx hb dX6_setPuzzle_85 hl (k := 1) rfl rfl (by decide) rfl (fun ls hl => ?_)
          refine lv_goto (tgt := 56) hx hb dX6_setPuzzle_88 (by decide) ?_
          exact ih _ _   H locs ls h hw (lv_sub hl [1, 0] rfl)
    exact hL12 600 _ _   H locs ls h9 hw (lv_sub hl [1, 0] rfl)
  · replace h := it_f c4 h
    refine lv_bipush (v := -3) hx hb dX6_setPuzzle_11 (by decide) ?_
    exact hE hw (congrArg Prod.fst (Option.some.inj h)) (congrArg Prod.snd (Option.some.inj h)) dX6_setPuzzle_13
set_option maxHeartbeats 4000000 in
set_option maxRecDepth 100000 in
theorem c_X6_setCount (l : Launch) (K : vK) (ad : Nat → Nat) (hI : adInj 30 ad) (l1 : Int32) (l2 : Int32) (σ : vSt) {r : Int32} {σ' : vSt} (h : f_X6_setCount l1 l2 σ = some (r, σ')) : MCi l yX6_setCount (wsY yX6_setCount cX6_setCount 4 (some .int)) (rmF 5 96) K 30 ad (cC K ad) [.ref (ad 8), .int l1, .int l2] σ r σ' := by
  refine MCi_of (own := RX6) (plainFor_of_name (by decide)) hI rfl (Nat.le_of_ble_eq_true rfl) ?_
  intro p e s m args below meth c A Q hx_E hE H locs ls hw hl
  have hx := hx_E.1; have hb := hx_E.2.1; have hown := hx_E.2.2.2.1; have hts := hx_E.2.2.2.2.1
  replace hl : lv_has ls 4 [(0, .ref (ad 8)), (1, .int l1), (2, .int l2)] := hl
  unfold f_X6_setCount at h
  refine lv_aload_n hx hb dX6_setCount_0 rfl (lv_at hl 0 rfl) ?_
  refine gC_8_0 hx_E hw fl_X6_27 dX6_setCount_1 ?_
  refine lv_iload_n hx hb dX6_setCount_4 rfl (lv_at hl 1 rfl) ?_
  obtain ⟨v1, k2, h⟩ := it_b h
  refine kV_z (As := [.int l1]) (rest := []) (q := 0) hx_E hw (c_X1_hasCell l K 30 (by decide) ad hI  l1 σ k2) mi_X1_hasCell mv_X1_hasCell ml_X6_104 (by decide) rfl rfl rfl ⟨⟨Nat.le_of_ble_eq_true rfl, Nat.le_of_ble_eq_true rfl⟩, rfl, rfl⟩ ⟨Nat.zero_le _, Nat.zero_le _⟩ hl.1 rfl (Nat.le_of_ble_eq_true rfl) dX6_setCount_5 (fun z3 H locs hw => ?_)
  refine lv_if_eq (tgt := 21) hx hb dX6_setCount_8 (by decide) (fun c4 => ?_) (fun c4 => ?_)
  · replace h := it_t c4 h
    refine lv_bipush (v := -2) hx hb dX6_setCount_21 (by decide) ?_
    exact hE hw (congrArg Prod.fst (Option.some.inj h)) (congrArg Prod.snd (Option.some.inj h)) dX6_setCount_23
  · replace h := it_f c4 h
    refine lv_iload_n hx hb dX6_setCount_11 rfl (lv_at hl 2 rfl) ?_
    refine lv_iconst (v := -1) hx hb dX6_setCount_12 (by decide) ?_
    refine lv_icmp_lt (tgt := 21) hx hb dX6_setCount_13 (by decide) (fun c5 => ?_) (fun c5 => ?_)
    · replace h := it_t c5 h
      refine lv_bipush (v := -2) hx hb dX6_setCount_21 (by decide) ?_
      exact hE hw (congrArg Prod.fst (Option.some.inj h)) (congrArg Prod.snd (Option.some.inj h)) dX6_setCount_23
    · replace h := it_f c5 h
      refine lv_iload_n hx hb dX6_setCount_16 rfl (lv_at hl 2 rfl) ?_
      refine lv_iconst (v := 3) hx hb dX6_setCount_17 (by decide) ?_
      refine lv_icmp_le (tgt := 24) hx hb dX6_setCount_18 (by decide) (fun c6 => ?_) (fun c6 => ?_)
      · replace h := it_t c6 h
        refine lv_aload_n hx hb dX6_setCount_24 rfl (lv_at hl 0 rfl) ?_
        refine gC_8_4 hx_E hw fl_X6_54 dX6_setCount_25 ?_
        refine lv_aload_n hx hb dX6_setCount_28 rfl (lv_at hl 0 rfl) ?_
        refine gC_8_0 hx_E hw fl_X6_27 dX6_setCount_29 ?_
        refine lv_aload_n hx hb dX6_setCount_32 rfl (lv_at hl 0 rfl) ?_
        refine gC_8_1 hx_E hw fl_X6_33 dX6_setCount_33 ?_
        refine lv_aload_n hx hb dX6_setCount_36 rfl (lv_at hl 0 rfl) ?_
        refine gC_8_6 hx_E hw fl_X6_65 dX6_setCount_37 ?_
        obtain ⟨σ7, k8, h⟩ := it_b h
        refine kV_v (As := [.ref (ad 0), .ref (ad 6), .ref (ad 9)]) (rest := []) (q := 20) hx_E hw (c_X2_keep l K ad hI   σ k8) mi_X2_keep mv_X2_keep ml_X6_81 (by decide) rfl rfl rfl ⟨⟨Nat.le_of_ble_eq_true rfl, Nat.le_of_ble_eq_true rfl⟩, rfl, rfl⟩ ⟨Nat.zero_le _, Nat.zero_le _⟩ hl.1 rfl (Nat.le_of_ble_eq_true rfl) dX6_setCount_40 (fun H locs hw => ?_)
        refine lv_aload_n hx hb dX6_setCount_43 rfl (lv_at hl 0 rfl) ?_
        refine gC_8_0 hx_E hw fl_X6_27 dX6_setCount_44 ?_
        refine gC_0_0 hx_E hw (by decide) fl_X6_94 dX6_setCount_47 ?_
        refine lv_iload_n hx hb dX6_setCount_50 rfl (lv_at hl 1 rfl) ?_
        obtain ⟨g9, h⟩ := it_g h
        refine aC_1 hx_E hw (by decide) g9 dX6_setCount_51 ?_
        obtain ⟨v10, e_v10, h⟩ := it_b h
        refine lt_topi (Option.some.inj e_v10) ?_
        refine lv_istore_n (lv' := [(3, .int v10), (0, .ref (ad 8)), (1, .int l1), (2, .int l2)]) hx hb dX6_setCount_52 rfl hl (by decide) rfl (fun ls hl => ?_)
        refine lv_aload_n hx hb dX6_setCount_53 rfl (lv_at hl 1 rfl) ?_
        refine gC_8_0 hx_E hw fl_X6_27 dX6_setCount_54 ?_
        refine gC_0_0 hx_E hw (by decide) fl_X6_94 dX6_setCount_57 ?_
        refine lv_iload_n hx hb dX6_setCount_60 rfl (lv_at hl 2 rfl) ?_
        refine lv_iload_n hx hb dX6_setCount_61 rfl (lv_at hl 3 rfl) ?_
        obtain ⟨g11, h⟩ := it_g h
        refine sC_1 hx_E hw (by decide) g11 dX6_setCount_62 (fun H locs hw => ?_)
        refine lv_aload_n hx hb dX6_setCount_63 rfl (lv_at hl 1 rfl) ?_
        refine gC_8_1 hx_E hw fl_X6_33 dX6_setCount_64 ?_
        refine lv_aload_n hx hb dX6_setCount_67 rfl (lv_at hl 1 rfl) ?_
        refine gC_8_1 hx_E hw fl_X6_33 dX6_setCount_68 ?_
        refine gC_B_2 hx_E hw isB_6 fl_X6_108 dX6_setCount_71 ?_
        refine lv_aload_n hx hb dX6_setCount_74 rfl (lv_at hl 1 rfl) ?_
        refine gC_8_1 hx_E hw fl_X6_33 dX6_setCount_75 ?_
        refine gC_B_3 hx_E hw isB_6 fl_X6_112 dX6_setCount_78 ?_
        obtain ⟨σ12, k13, h⟩ := it_b h
        refine kV_v (As := [.long (gL (sI σ7 1 l1.toNatClampNeg l2) 6 2), .long (gL (sI σ7 1 l1.toNatClampNeg l2) 6 3)]) (rest := []) (q := 6) hx_E hw (c_X0_begin l K 30 ad hI 6 isB_6 (gL (sI σ7 1 l1.toNatClampNeg l2) 6 2) (gL (sI σ7 1 l1.toNatClampNeg l2) 6 3) (sI σ7 1 l1.toNatClampNeg l2) k13) mi_X0_begin mv_X0_begin ml_X6_23 (by decide) rfl rfl rfl ⟨⟨Nat.le_of_ble_eq_true rfl, Nat.le_of_ble_eq_true rfl⟩, rfl, rfl⟩ ⟨Nat.zero_le _, Nat.zero_le _⟩ hl.1 rfl (Nat.le_of_ble_eq_true rfl) dX6_setCount_81 (fun H locs hw => ?_)
        refine lv_iload_n hx hb dX6_setCount_84 rfl (lv_at hl 0 rfl) ?_
        exact hE hw (congrArg Prod.fst (Option.some.inj h)) (congrArg Prod.snd (Option.some.inj h)) dX6_setCount_85
      · replace h := it_f c6 h
        refine lv_bipush (v := -2) hx hb dX6_setCount_21 (by decide) ?_
        exact hE hw (congrArg Prod.fst (Option.some.inj h)) (congrArg Prod.snd (Option.some.inj h)) dX6_setCount_23
set_option maxHeartbeats 4000000 in
set_option maxRecDepth 100000 in
theorem c_X0_markOf (l : Launch) (K : vK) (N : Nat) (ad : Nat → Nat) (hI : adInj N ad) (b : Nat) (hB : isB N b) (l1 : Int32) (σ : vSt) {r : Int32} (h : f_X0_markOf b l1 σ = some r) : MCi l yX0_markOf (wsY yX0_markOf cX0_markOf 2 (some .int)) (rmF 1 0) K N ad (cC K ad) [.ref (ad b), .int l1] σ r σ := by
  refine MCi_of (own := RX0) (plainFor_of_name (by decide)) hI rfl (Nat.le_of_ble_eq_true rfl) ?_
  intro p e s m args below meth c A Q hx_E hE H locs ls hw hl
  have hx := hx_E.1; have hb := hx_E.2.1; have hown := hx_E.2.2.2.1; have hts := hx_E.2.2.2.2.1
  replace hl : lv_has ls 2 [(0, .ref (ad b)), (1, .int l1)] := hl
  have hN := isB_n6 hB
  unfold f_X0_markOf at h
  refine lv_aload_n hx hb dX0_markOf_0 rfl (lv_at hl 0 rfl) ?_
  refine gC_B_2 hx_E hw hB fl_X0_47 dX0_markOf_1 ?_
  refine lv_iload_n hx hb dX0_markOf_4 rfl (lv_at hl 1 rfl) ?_
  refine lv_lushr (v := (o_lushr (gL σ b 2) l1)) hx hb dX0_markOf_5 rfl ?_
  refine lv_lconst (v := 1) hx hb dX0_markOf_6 (by decide) ?_
  refine lv_land hx hb dX0_markOf_7 ?_
  refine lv_lconst (v := 0) hx hb dX0_markOf_8 (by decide) ?_
  refine W.lcmp hx hb dX0_markOf_9 ?_
  refine lv_if_eq (tgt := 15) hx hb dX0_markOf_10 (by decide) (fun c1 => ?_) (fun c1 => ?_)
  · replace h := it_t c1 h
    refine lv_aload_n hx hb dX0_markOf_15 rfl (lv_at hl 0 rfl) ?_
    refine gC_B_3 hx_E hw hB fl_X0_50 dX0_markOf_16 ?_
    refine lv_iload_n hx hb dX0_markOf_19 rfl (lv_at hl 1 rfl) ?_
    refine lv_lushr (v := (o_lushr (gL σ b 3) l1)) hx hb dX0_markOf_20 rfl ?_
    refine lv_lconst (v := 1) hx hb dX0_markOf_21 (by decide) ?_
    refine lv_land hx hb dX0_markOf_22 ?_
    refine lv_lconst (v := 0) hx hb dX0_markOf_23 (by decide) ?_
    refine W.lcmp hx hb dX0_markOf_24 ?_
    refine lv_if_eq (tgt := 32) hx hb dX0_markOf_25 (by decide) (fun c2 => ?_) (fun c2 => ?_)
    · replace h := it_t c2 h
      refine lv_iconst (v := 2) hx hb dX0_markOf_32 (by decide) ?_
      exact hE hw (Option.some.inj h) rfl dX0_markOf_33
    · replace h := it_f c2 h
      refine lv_iconst (v := 0) hx hb dX0_markOf_28 (by decide) ?_
      refine lv_goto (tgt := 33) hx hb dX0_markOf_29 (by decide) ?_
      exact hE hw (Option.some.inj h) rfl dX0_markOf_33
  · replace h := it_f c1 h
    refine lv_iconst (v := 1) hx hb dX0_markOf_13 (by decide) ?_
    exact hE hw (Option.some.inj h) rfl dX0_markOf_14
set_option maxHeartbeats 4000000 in
set_option maxRecDepth 100000 in
theorem c_X6_mark (l : Launch) (K : vK) (ad : Nat → Nat) (hI : adInj 30 ad) (l1 : Int32) (l2 : Int32) (σ : vSt) {r : Int32} {σ' : vSt} (h : f_X6_mark l1 l2 σ = some (r, σ')) : MCi l yX6_mark (wsY yX6_mark cX6_mark 10 (some .int)) (rmF 5 96) K 30 ad (cC K ad) [.ref (ad 8), .int l1, .int l2] σ r σ' := by
  refine MCi_of (own := RX6) (plainFor_of_name (by decide)) hI rfl (Nat.le_of_ble_eq_true rfl) ?_
  intro p e s m args below meth c A Q hx_E hE H locs ls hw hl
  have hx := hx_E.1; have hb := hx_E.2.1; have hown := hx_E.2.2.2.1; have hts := hx_E.2.2.2.2.1
  replace hl : lv_has ls 10 [(0, .ref (ad 8)), (1, .int l1), (2, .int l2)] := hl
  unfold f_X6_mark at h
  refine lv_aload_n hx hb dX6_mark_0 rfl (lv_at hl 0 rfl) ?_
  refine gC_8_0 hx_E hw fl_X6_27 dX6_mark_1 ?_
  refine lv_iload_n hx hb dX6_mark_4 rfl (lv_at hl 1 rfl) ?_
  obtain ⟨v1, k2, h⟩ := it_b h
  refine kV_z (As := [.int l1]) (rest := []) (q := 0) hx_E hw (c_X1_hasEdge l K 30 (by decide) ad hI  l1 σ k2) mi_X1_hasEdge mv_X1_hasEdge ml_X6_115 (by decide) rfl rfl rfl ⟨⟨Nat.le_of_ble_eq_true rfl, Nat.le_of_ble_eq_true rfl⟩, rfl, rfl⟩ ⟨Nat.zero_le _, Nat.zero_le _⟩ hl.1 rfl (Nat.le_of_ble_eq_true rfl) dX6_mark_5 (fun z3 H locs hw => ?_)
  refine lv_if_eq (tgt := 20) hx hb dX6_mark_8 (by decide) (fun c4 => ?_) (fun c4 => ?_)
  · replace h := it_t c4 h
    refine lv_bipush (v := -2) hx hb dX6_mark_20 (by decide) ?_
    exact hE hw (congrArg Prod.fst (Option.some.inj h)) (congrArg Prod.snd (Option.some.inj h)) dX6_mark_22
  · replace h := it_f c4 h
    refine lv_iload_n hx hb dX6_mark_11 rfl (lv_at hl 2 rfl) ?_
    refine lv_if_lt (tgt := 20) hx hb dX6_mark_12 (by decide) (fun c5 => ?_) (fun c5 => ?_)
    · replace h := it_t c5 h
      refine lv_bipush (v := -2) hx hb dX6_mark_20 (by decide) ?_
      exact hE hw (congrArg Prod.fst (Option.some.inj h)) (congrArg Prod.snd (Option.some.inj h)) dX6_mark_22
    · replace h := it_f c5 h
      refine lv_iload_n hx hb dX6_mark_15 rfl (lv_at hl 2 rfl) ?_
      refine lv_iconst (v := 2) hx hb dX6_mark_16 (by decide) ?_
      refine lv_icmp_le (tgt := 23) hx hb dX6_mark_17 (by decide) (fun c6 => ?_) (fun c6 => ?_)
      · replace h := it_t c6 h
        refine lv_aload_n hx hb dX6_mark_23 rfl (lv_at hl 0 rfl) ?_
        refine gC_8_4 hx_E hw fl_X6_54 dX6_mark_24 ?_
        refine lv_aload_n hx hb dX6_mark_27 rfl (lv_at hl 0 rfl) ?_
        refine gC_8_0 hx_E hw fl_X6_27 dX6_mark_28 ?_
        refine lv_aload_n hx hb dX6_mark_31 rfl (lv_at hl 0 rfl) ?_
        refine gC_8_1 hx_E hw fl_X6_33 dX6_mark_32 ?_
        refine lv_aload_n hx hb dX6_mark_35 rfl (lv_at hl 0 rfl) ?_
        refine gC_8_6 hx_E hw fl_X6_65 dX6_mark_36 ?_
        obtain ⟨σ7, k8, h⟩ := it_b h
        refine kV_v (As := [.ref (ad 0), .ref (ad 6), .ref (ad 9)]) (rest := []) (q := 20) hx_E hw (c_X2_keep l K ad hI   σ k8) mi_X2_keep mv_X2_keep ml_X6_81 (by decide) rfl rfl rfl ⟨⟨Nat.le_of_ble_eq_true rfl, Nat.le_of_ble_eq_true rfl⟩, rfl, rfl⟩ ⟨Nat.zero_le _, Nat.zero_le _⟩ hl.1 rfl (Nat.le_of_ble_eq_true rfl) dX6_mark_39 (fun H locs hw => ?_)
        refine lv_aload_n hx hb dX6_mark_42 rfl (lv_at hl 0 rfl) ?_
        refine gC_8_1 hx_E hw fl_X6_33 dX6_mark_43 ?_
        refine lv_iload_n hx hb dX6_mark_46 rfl (lv_at hl 1 rfl) ?_
        obtain ⟨v9, k10, h⟩ := it_b h
        refine kV_i (As := [.int l1]) (rest := []) (q := 6) hx_E hw (c_X0_markOf l K 30 ad hI 6 isB_6 l1 σ7 k10) mi_X0_markOf mv_X0_markOf ml_X6_118 (by decide) rfl rfl rfl ⟨⟨Nat.le_of_ble_eq_true rfl, Nat.le_of_ble_eq_true rfl⟩, rfl, rfl⟩ ⟨Nat.zero_le _, Nat.zero_le _⟩ hl.1 rfl (Nat.le_of_ble_eq_true rfl) dX6_mark_47 (fun H locs hw => ?_)
        refine lv_istore_n (lv' := [(3, .int v9), (0, .ref (ad 8)), (1, .int l1), (2, .int l2)]) hx hb dX6_mark_50 rfl hl (by decide) rfl (fun ls hl => ?_)
        refine lv_lconst (v := 1) hx hb dX6_mark_51 (by decide) ?_
        refine lv_iload_n hx hb dX6_mark_52 rfl (lv_at hl 2 rfl) ?_
        refine lv_lshl (v := (o_lshl (1 : Int64) l1)) hx hb dX6_mark_53 rfl ?_
        obtain ⟨v11, e_v11, h⟩ := it_b h
        refine lt_topl (Option.some.inj e_v11) ?_
        refine lv_lstore (lv' := [(4, .long v11), (3, .int v9), (0, .ref (ad 8)), (1, .int l1), (2, .int l2)]) hx hb dX6_mark_54 hl (by decide) rfl (fun ls hl => ?_)
        refine lv_iload_n hx hb dX6_mark_56 rfl (lv_at hl 4 rfl) ?_
        refine lv_iconst (v := 1) hx hb dX6_mark_57 (by decide) ?_
        obtain ⟨φ15, h9, h_φ15⟩ := it_b h
        have hJ14 : ∀ (v13 : Int64), v13 = φ15 → ∀ (H : Heap) (locs : List Loc) (ls : Array Slot), PW K 30 ad (cC K ad) A s.heap σ7 H locs → lv_has ls 10 [(0, .ref (ad 8)), (2, .int l2), (3, .int v9), (4, .long v11)] → W p l e (rmF 5 96) s m args below meth c H locs 0 0 Q (F0 m 88 ls [.long v13]) := by
          intro v13 e9 H locs ls hw hl
          subst e9
          replace h := h_φ15
          refine lv_lstore (lv' := [(6, .long v13), (0, .ref (ad 8)), (2, .int l2), (3, .int v9), (4, .long v11)]) hx hb dX6_mark_88 hl (by decide) rfl (fun ls hl => ?_)
          refine lv_iload_n hx hb dX6_mark_90 rfl (lv_at hl 2 rfl) ?_
          obtain ⟨φ19, h9, h_φ19⟩ := it_b h
          have hJ18 : ∀ (v17 : Int64), v17 = φ19 → ∀ (H : Heap) (locs : List Loc) (ls : Array Slot), PW K 30 ad (cC K ad) A s.heap σ7 H locs → lv_has ls 10 [(0, .ref (ad 8)), (3, .int v9), (6, .long v13)] → W p l e (rmF 5 96) s m args below meth c H locs 0 0 Q (F0 m 121 ls [.long v17]) := by
            intro v17 e9 H locs ls hw hl
            subst e9
            replace h := h_φ19
            refine lv_lstore (lv' := [(8, .long v17), (0, .ref (ad 8)), (3, .int v9), (6, .long v13)]) hx hb dX6_mark_121 hl (by decide) rfl (fun ls hl => ?_)
            refine lv_aload_n hx hb dX6_mark_123 rfl (lv_at hl 1 rfl) ?_
            refine gC_8_1 hx_E hw fl_X6_33 dX6_mark_124 ?_
            refine lv_lload hx hb dX6_mark_127 (lv_at hl 3 rfl) ?_
            refine lv_lload hx hb dX6_mark_129 (lv_at hl 0 rfl) ?_
            obtain ⟨σ20, k21, h⟩ := it_b h
            refine kV_v (As := [.long v13, .long v17]) (rest := []) (q := 6) hx_E hw (c_X0_begin l K 30 ad hI 6 isB_6 v13 v17 σ7 k21) mi_X0_begin mv_X0_begin ml_X6_23 (by decide) rfl rfl rfl ⟨⟨Nat.le_of_ble_eq_true rfl, Nat.le_of_ble_eq_true rfl⟩, rfl, rfl⟩ ⟨Nat.zero_le _, Nat.zero_le _⟩ hl.1 rfl (Nat.le_of_ble_eq_true rfl) dX6_mark_131 (fun H locs hw => ?_)
            refine lv_iload_n hx hb dX6_mark_134 rfl (lv_at hl 2 rfl) ?_
            exact hE hw (congrArg Prod.fst (Option.some.inj h)) (congrArg Prod.snd (Option.some.inj h)) dX6_mark_135
          replace h := h9
          refine lv_if_ne (tgt := 107) hx hb dX6_mark_91 (by decide) (fun c16 => ?_) (fun c16 => ?_)
          · replace h := it_f c16 h
            refine lv_aload_n hx hb dX6_mark_107 rfl (lv_at hl 1 rfl) ?_
            refine gC_8_1 hx_E hw fl_X6_33 dX6_mark_108 ?_
            refine gC_B_3 hx_E hw isB_6 fl_X6_112 dX6_mark_111 ?_
            refine lv_lload hx hb dX6_mark_114 (lv_at hl 4 rfl) ?_
            refine lv_ldc2 (v := -1) hx hb hown (hts _ kl_X6_121) dX6_mark_116 ?_
            refine lv_lxor hx hb dX6_mark_119 ?_
            refine lv_land hx hb dX6_mark_120 ?_
            have e9 := Option.some.inj h
            subst e9
            exact hJ18 _ rfl  H locs ls hw (lv_sub hl [1, 3, 0] rfl)
          · replace h := it_t c16 h
            refine lv_aload_n hx hb dX6_mark_94 rfl (lv_at hl 1 rfl) ?_
            refine gC_8_1 hx_E hw fl_X6_33 dX6_mark_95 ?_
            refine gC_B_3 hx_E hw isB_6 fl_X6_112 dX6_mark_98 ?_
            refine lv_lload hx hb dX6_mark_101 (lv_at hl 4 rfl) ?_
            refine lv_lor hx hb dX6_mark_103 ?_
            refine lv_goto (tgt := 121) hx hb dX6_mark_104 (by decide) ?_
            have e9 := Option.some.inj h
            subst e9
            exact hJ18 _ rfl  H locs ls hw (lv_sub hl [1, 3, 0] rfl)
        replace h := h9
        refine lv_icmp_ne (tgt := 74) hx hb dX6_mark_58 (by decide) (fun c12 => ?_) (fun c12 => ?_)
        · replace h := it_f c12 h
          refine lv_aload_n hx hb dX6_mark_74 rfl (lv_at hl 2 rfl) ?_
          refine gC_8_1 hx_E hw fl_X6_33 dX6_mark_75 ?_
          refine gC_B_2 hx_E hw isB_6 fl_X6_108 dX6_mark_78 ?_
          refine lv_lload hx hb dX6_mark_81 (lv_at hl 0 rfl) ?_
          refine lv_ldc2 (v := -1) hx hb hown (hts _ kl_X6_121) dX6_mark_83 ?_
          refine lv_lxor hx hb dX6_mark_86 ?_
          refine lv_land hx hb dX6_mark_87 ?_
          have e9 := Option.some.inj h
          subst e9
          exact hJ14 _ rfl  H locs ls hw (lv_sub hl [2, 4, 1, 0] rfl)
        · replace h := it_t c12 h
          refine lv_aload_n hx hb dX6_mark_61 rfl (lv_at hl 2 rfl) ?_
          refine gC_8_1 hx_E hw fl_X6_33 dX6_mark_62 ?_
          refine gC_B_2 hx_E hw isB_6 fl_X6_108 dX6_mark_65 ?_
          refine lv_lload hx hb dX6_mark_68 (lv_at hl 0 rfl) ?_
          refine lv_lor hx hb dX6_mark_70 ?_
          refine lv_goto (tgt := 88) hx hb dX6_mark_71 (by decide) ?_
          have e9 := Option.some.inj h
          subst e9
          exact hJ14 _ rfl  H locs ls hw (lv_sub hl [2, 4, 1, 0] rfl)
      · replace h := it_f c6 h
        refine lv_bipush (v := -2) hx hb dX6_mark_20 (by decide) ?_
        exact hE hw (congrArg Prod.fst (Option.some.inj h)) (congrArg Prod.snd (Option.some.inj h)) dX6_mark_22
set_option maxHeartbeats 4000000 in
set_option maxRecDepth 100000 in
theorem c_X6_wipe (l : Launch) (K : vK) (ad : Nat → Nat) (hI : adInj 30 ad) (σ : vSt) {r : Int32} {σ' : vSt} (h : f_X6_wipe σ = some (r, σ')) : MCi l yX6_wipe (wsY yX6_wipe cX6_wipe 2 (some .int)) (rmF 5 96) K 30 ad (cC K ad) [.ref (ad 8)] σ r σ' := by
  refine MCi_of (own := RX6) (plainFor_of_name (by decide)) hI rfl (Nat.le_of_ble_eq_true rfl) ?_
  intro p e s m args below meth c A Q hx_E hE H locs ls hw hl
  have hx := hx_E.1; have hb := hx_E.2.1; have hown := hx_E.2.2.2.1; have hts := hx_E.2.2.2.2.1
  replace hl : lv_has ls 2 [(0, .ref (ad 8))] := hl
  unfold f_X6_wipe at h
  refine lv_aload_n hx hb dX6_wipe_0 rfl (lv_at hl 0 rfl) ?_
  refine gC_8_4 hx_E hw fl_X6_54 dX6_wipe_1 ?_
  refine lv_aload_n hx hb dX6_wipe_4 rfl (lv_at hl 0 rfl) ?_
  refine gC_8_0 hx_E hw fl_X6_27 dX6_wipe_5 ?_
  refine lv_aload_n hx hb dX6_wipe_8 rfl (lv_at hl 0 rfl) ?_
  refine gC_8_1 hx_E hw fl_X6_33 dX6_wipe_9 ?_
  refine lv_aload_n hx hb dX6_wipe_12 rfl (lv_at hl 0 rfl) ?_
  refine gC_8_6 hx_E hw fl_X6_65 dX6_wipe_13 ?_
  obtain ⟨σ1, k2, h⟩ := it_b h
  refine kV_v (As := [.ref (ad 0), .ref (ad 6), .ref (ad 9)]) (rest := []) (q := 20) hx_E hw (c_X2_keep l K ad hI   σ k2) mi_X2_keep mv_X2_keep ml_X6_81 (by decide) rfl rfl rfl ⟨⟨Nat.le_of_ble_eq_true rfl, Nat.le_of_ble_eq_true rfl⟩, rfl, rfl⟩ ⟨Nat.zero_le _, Nat.zero_le _⟩ hl.1 rfl (Nat.le_of_ble_eq_true rfl) dX6_wipe_16 (fun H locs hw => ?_)
  refine lv_aload_n hx hb dX6_wipe_19 rfl (lv_at hl 0 rfl) ?_
  refine gC_8_0 hx_E hw fl_X6_27 dX6_wipe_20 ?_
  refine gC_0_9 hx_E hw (by decide) fl_X6_101 dX6_wipe_23 ?_
  refine lv_aload_n hx hb dX6_wipe_26 rfl (lv_at hl 0 rfl) ?_
  refine gC_8_1 hx_E hw fl_X6_33 dX6_wipe_27 ?_
  refine gC_B_3 hx_E hw isB_6 fl_X6_112 dX6_wipe_30 ?_
  obtain ⟨v3, k4, h⟩ := it_b h
  refine kS_i (As := [.long (gL σ1 6 3)]) (rest := [.int (gI σ1 0 9)]) hx_E hw (c_J13_bitCount_95d88 l K (gL σ1 6 3) k4) mi_J13_bitCount_95d88 sm_J13_bitCount_95d88 ml_X6_123 rfl ⟨⟨Nat.le_of_ble_eq_true rfl, Nat.le_of_ble_eq_true rfl⟩, rfl, rfl⟩ ⟨Nat.zero_le _, Nat.zero_le _⟩ hl.1 rfl (Nat.le_of_ble_eq_true rfl) dX6_wipe_33 (fun H locs hw => ?_)
  refine lv_isub hx hb dX6_wipe_36 ?_
  obtain ⟨v5, e_v5, h⟩ := it_b h
  refine lt_topi (Option.some.inj e_v5) ?_
  refine lv_istore_n (lv' := [(1, .int v5), (0, .ref (ad 8))]) hx hb dX6_wipe_37 rfl hl (by decide) rfl (fun ls hl => ?_)
  refine lv_aload_n hx hb dX6_wipe_38 rfl (lv_at hl 1 rfl) ?_
  obtain ⟨σ6, k7, h⟩ := it_b h
  refine kV_v (As := []) (rest := []) (q := 8) hx_E hw (c_X6_forgetMade l K ad hI   σ1 k7) mi_X6_forgetMade mv_X6_forgetMade ml_X6_98 (by decide) rfl rfl rfl ⟨⟨Nat.le_of_ble_eq_true rfl, Nat.le_of_ble_eq_true rfl⟩, rfl, rfl⟩ ⟨Nat.zero_le _, Nat.zero_le _⟩ hl.1 rfl (Nat.le_of_ble_eq_true rfl) dX6_wipe_39 (fun H locs hw => ?_)
  refine lv_aload_n hx hb dX6_wipe_42 rfl (lv_at hl 1 rfl) ?_
  refine gC_8_1 hx_E hw fl_X6_33 dX6_wipe_43 ?_
  refine lv_lconst (v := 0) hx hb dX6_wipe_46 (by decide) ?_
  refine lv_aload_n hx hb dX6_wipe_47 rfl (lv_at hl 1 rfl) ?_
  refine gC_8_0 hx_E hw fl_X6_27 dX6_wipe_48 ?_
  obtain ⟨v8, k9, h⟩ := it_b h
  refine kV_l (As := []) (rest := [.long (0 : Int64), .ref (ad 6)]) (q := 0) hx_E hw (c_X1_allEdges l K 30 (by decide) ad hI   σ6 k9) mi_X1_allEdges mv_X1_allEdges ml_X6_19 (by decide) rfl rfl rfl ⟨⟨Nat.le_of_ble_eq_true rfl, Nat.le_of_ble_eq_true rfl⟩, rfl, rfl⟩ ⟨Nat.zero_le _, Nat.zero_le _⟩ hl.1 rfl (Nat.le_of_ble_eq_true rfl) dX6_wipe_51 (fun H locs hw => ?_)
  obtain ⟨σ10, k11, h⟩ := it_b h
  refine kV_v (As := [.long (0 : Int64), .long v8]) (rest := []) (q := 6) hx_E hw (c_X0_begin l K 30 ad hI 6 isB_6 (0 : Int64) v8 σ6 k11) mi_X0_begin mv_X0_begin ml_X6_23 (by decide) rfl rfl rfl ⟨⟨Nat.le_of_ble_eq_true rfl, Nat.le_of_ble_eq_true rfl⟩, rfl, rfl⟩ ⟨Nat.zero_le _, Nat.zero_le _⟩ hl.1 rfl (Nat.le_of_ble_eq_true rfl) dX6_wipe_54 (fun H locs hw => ?_)
  refine lv_iload_n hx hb dX6_wipe_57 rfl (lv_at hl 0 rfl) ?_
  exact hE hw (congrArg Prod.fst (Option.some.inj h)) (congrArg Prod.snd (Option.some.inj h)) dX6_wipe_58
set_option maxHeartbeats 4000000 in
set_option maxRecDepth 100000 in
theorem c_X0_fits (l : Launch) (K : vK) (N : Nat) (ad : Nat → Nat) (hI : adInj N ad) (b : Nat) (hB : isB N b) (σ : vSt) {r : Int32} (h : f_X0_fits b σ = some r) : MCz l yX0_fits (wsY yX0_fits cX0_fits 1 (some .boolean)) (rmF 1 0) K N ad (cC K ad) [.ref (ad b)] σ r σ := by
  refine MCz_of (own := RX0) (plainFor_of_name (by decide)) hI rfl (Nat.le_of_ble_eq_true rfl) ?_
  intro p e s m args below meth c A Q hx_E hE H locs ls hw hl
  have hx := hx_E.1; have hb := hx_E.2.1; have hown := hx_E.2.2.2.1; have hts := hx_E.2.2.2.2.1
  replace hl : lv_has ls 1 [(0, .ref (ad b))] := hl
  have hN := isB_n6 hB
  unfold f_X0_fits at h
  refine lv_aload_n hx hb dX0_fits_0 rfl (lv_at hl 0 rfl) ?_
  refine gC_B_4 hx_E hw hB fl_X0_29 dX0_fits_1 ?_
  refine lv_if_ne (tgt := 27) hx hb dX0_fits_4 (by decide) (fun c1 => ?_) (fun c1 => ?_)
  · replace h := it_f c1 h
    refine lv_iconst (v := 0) hx hb dX0_fits_27 (by decide) ?_
    exact hE hw (Option.some.inj h) rfl (Or.inl rfl) dX0_fits_28
  · replace h := it_t c1 h
    refine lv_aload_n hx hb dX0_fits_7 rfl (lv_at hl 0 rfl) ?_
    refine gC_B_6 hx_E hw hB fl_X0_32 dX0_fits_8 ?_
    refine lv_if_ne (tgt := 27) hx hb dX0_fits_11 (by decide) (fun c2 => ?_) (fun c2 => ?_)
    · replace h := it_f c2 h
      refine lv_iconst (v := 0) hx hb dX0_fits_27 (by decide) ?_
      exact hE hw (Option.some.inj h) rfl (Or.inl rfl) dX0_fits_28
    · replace h := it_t c2 h
      refine lv_aload_n hx hb dX0_fits_14 rfl (lv_at hl 0 rfl) ?_
      refine gC_B_8 hx_E hw hB fl_X0_35 dX0_fits_15 ?_
      refine lv_lconst (v := 0) hx hb dX0_fits_18 (by decide) ?_
      refine W.lcmp hx hb dX0_fits_19 ?_
      refine lv_if_ne (tgt := 27) hx hb dX0_fits_20 (by decide) (fun c3 => ?_) (fun c3 => ?_)
      · replace h := it_f c3 h
        refine lv_iconst (v := 0) hx hb dX0_fits_27 (by decide) ?_
        exact hE hw (Option.some.inj h) rfl (Or.inl rfl) dX0_fits_28
      · replace h := it_t c3 h
        refine lv_iconst (v := 1) hx hb dX0_fits_23 (by decide) ?_
        refine lv_goto (tgt := 28) hx hb dX0_fits_24 (by decide) ?_
        exact hE hw (Option.some.inj h) rfl (Or.inr rfl) dX0_fits_28
set_option maxHeartbeats 4000000 in
set_option maxRecDepth 100000 in
theorem c_X6_leastOf (l : Launch) (K : vK) (l0 : Int64) {r : Int32} (h : f_X6_leastOf l0 = some r) : MCi l yX6_leastOf (wsY yX6_leastOf cX6_leastOf 2 (some .int)) (rmF 2 21) K 0 ad_0 (cf_0) [.long l0] st_0 r st_0 := by
  refine MCi_of (own := RX6) (plainFor_of_name (by decide)) adInj_0 rfl (Nat.le_of_ble_eq_true rfl) ?_
  intro p e s m args below meth c A Q hx_E hE H locs ls hw hl
  have hx := hx_E.1; have hb := hx_E.2.1; have hown := hx_E.2.2.2.1; have hts := hx_E.2.2.2.2.1
  replace hl : lv_has ls 2 [(0, .long l0)] := hl
  unfold f_X6_leastOf at h
  refine lv_lload_n hx hb dX6_leastOf_0 rfl (lv_at hl 0 rfl) ?_
  refine lv_lconst (v := 0) hx hb dX6_leastOf_1 (by decide) ?_
  refine W.lcmp hx hb dX6_leastOf_2 ?_
  refine lv_if_ne (tgt := 10) hx hb dX6_leastOf_3 (by decide) (fun c1 => ?_) (fun c1 => ?_)
  · replace h := it_f c1 h
    refine lv_lload_n hx hb dX6_leastOf_10 rfl (lv_at hl 0 rfl) ?_
    refine lv_lload_n hx hb dX6_leastOf_11 rfl (lv_at hl 0 rfl) ?_
    refine lv_lneg hx hb dX6_leastOf_12 ?_
    refine lv_land hx hb dX6_leastOf_13 ?_
    refine lv_lconst (v := 1) hx hb dX6_leastOf_14 (by decide) ?_
    refine lv_lsub hx hb dX6_leastOf_15 ?_
    obtain ⟨v2, k3, h⟩ := it_b h
    refine kS_i (As := [.long ((l0 &&& (-l0)) - (1 : Int64))]) (rest := []) hx_E hw (c_J13_bitCount_95d88 l K ((l0 &&& (-l0)) - (1 : Int64)) k3) mi_J13_bitCount_95d88 sm_J13_bitCount_95d88 ml_X6_123 rfl ⟨⟨Nat.le_of_ble_eq_true rfl, Nat.le_of_ble_eq_true rfl⟩, rfl, rfl⟩ ⟨Nat.zero_le _, Nat.zero_le _⟩ hl.1 rfl (Nat.le_of_ble_eq_true rfl) dX6_leastOf_16 (fun H locs hw => ?_)
    exact hE hw (Option.some.inj h) rfl dX6_leastOf_19
  · replace h := it_t c1 h
    refine lv_iconst (v := -1) hx hb dX6_leastOf_6 (by decide) ?_
    refine lv_goto (tgt := 19) hx hb dX6_leastOf_7 (by decide) ?_
    exact hE hw (Option.some.inj h) rfl dX6_leastOf_19
set_option maxHeartbeats 4000000 in
set_option maxRecDepth 100000 in
theorem c_X0_found (l : Launch) (K : vK) (N : Nat) (ad : Nat → Nat) (hI : adInj N ad) (b : Nat) (hB : isB N b) (l1 : Int32) (l2 : Int32) (l3 : Int32) (σ : vSt) {σ' : vSt} (h : f_X0_found b l1 l2 l3 σ = some σ') : MCv l yX0_found (wsY yX0_found cX0_found 4 none) (rmF 1 0) K N ad (cC K ad) [.ref (ad b), .int l1, .int l2, .int l3] σ σ' := by
  refine MCv_of (own := RX0) (plainFor_of_name (by decide)) hI rfl (Nat.le_of_ble_eq_true rfl) ?_
  intro p e s m args below meth c A Q hx_E hE H locs ls hw hl
  have hx := hx_E.1; have hb := hx_E.2.1; have hown := hx_E.2.2.2.1; have hts := hx_E.2.2.2.2.1
  replace hl : lv_has ls 4 [(0, .ref (ad b)), (1, .int l1), (2, .int l2), (3, .int l3)] := hl
  have hN := isB_n6 hB
  unfold f_X0_found at h
  refine lv_aload_n hx hb dX0_found_0 rfl (lv_at hl 0 rfl) ?_
  refine lv_iload_n hx hb dX0_found_1 rfl (lv_at hl 1 rfl) ?_
  refine pC_B_10 hx_E hw hB fl_X0_15 dX0_found_2 (fun H locs hw => ?_)
  refine lv_aload_n hx hb dX0_found_5 rfl (lv_at hl 0 rfl) ?_
  refine lv_iload_n hx hb dX0_found_6 rfl (lv_at hl 2 rfl) ?_
  refine pC_B_11 hx_E hw hB fl_X0_19 dX0_found_7 (fun H locs hw => ?_)
  refine lv_aload_n hx hb dX0_found_10 rfl (lv_at hl 0 rfl) ?_
  refine lv_iload_n hx hb dX0_found_11 rfl (lv_at hl 3 rfl) ?_
  refine pC_B_12 hx_E hw hB fl_X0_22 dX0_found_12 (fun H locs hw => ?_)
  exact hE hw (Option.some.inj h) dX0_found_15
set_option maxHeartbeats 4000000 in
set_option maxRecDepth 100000 in
theorem c_X0_findAtPlace (l : Launch) (K : vK) (N : Nat) (ad : Nat → Nat) (hI : adInj N ad) (b : Nat) (hB : isB N b) (l1 : Int32) (σ : vSt) {r : Int32} {σ' : vSt} (h : f_X0_findAtPlace b l1 σ = some (r, σ')) : MCz l yX0_findAtPlace (wsY yX0_findAtPlace cX0_findAtPlace 7 (some .boolean)) (rmF 3 42) K N ad (cC K ad) [.ref (ad b), .int l1] σ r σ' := by
  refine MCz_of (own := RX0) (plainFor_of_name (by decide)) hI rfl (Nat.le_of_ble_eq_true rfl) ?_
  intro p e s m args below meth c A Q hx_E hE H locs ls hw hl
  have hx := hx_E.1; have hb := hx_E.2.1; have hown := hx_E.2.2.2.1; have hts := hx_E.2.2.2.2.1
  replace hl : lv_has ls 7 [(0, .ref (ad b)), (1, .int l1)] := hl
  have hN := isB_n6 hB
  unfold f_X0_findAtPlace at h
  refine lv_aload_n hx hb dX0_findAtPlace_0 rfl (lv_at hl 0 rfl) ?_
  obtain ⟨v1, k2, h⟩ := it_b h
  refine kV_z (As := []) (rest := []) (q := b) hx_E hw (c_X0_fits l K N ad hI b hB  σ k2) mi_X0_fits mv_X0_fits ml_X0_43 (isB_lt hB) (cC_B hB _ _) rfl rfl ⟨⟨Nat.le_of_ble_eq_true rfl, Nat.le_of_ble_eq_true rfl⟩, rfl, rfl⟩ ⟨Nat.zero_le _, Nat.zero_le _⟩ hl.1 rfl (Nat.le_of_ble_eq_true rfl) dX0_findAtPlace_1 (fun z3 H locs hw => ?_)
  refine lv_if_eq (tgt := 14) hx hb dX0_findAtPlace_4 (by decide) (fun c4 => ?_) (fun c4 => ?_)
  · replace h := it_t c4 h
    refine lv_iconst (v := 0) hx hb dX0_findAtPlace_14 (by decide) ?_
    exact hE hw (congrArg Prod.fst (Option.some.inj h)) (congrArg Prod.snd (Option.some.inj h)) (Or.inl rfl) dX0_findAtPlace_15
  · replace h := it_f c4 h
    refine lv_aload_n hx hb dX0_findAtPlace_7 rfl (lv_at hl 0 rfl) ?_
    refine gC_B_9 hx_E hw hB fl_X0_39 dX0_findAtPlace_8 ?_
    refine lv_if_eq (tgt := 16) hx hb dX0_findAtPlace_11 (by decide) (fun c5 => ?_) (fun c5 => ?_)
    · replace h := it_t c5 h
      refine lv_iconst (v := 0) hx hb dX0_findAtPlace_16 (by decide) ?_
      refine lv_istore_n (lv' := [(2, .int (0 : Int32)), (0, .ref (ad b)), (1, .int l1)]) hx hb dX0_findAtPlace_17 rfl hl (by decide) rfl (fun ls hl => ?_)
      obtain ⟨φ9, h9, h_φ9⟩ := it_b h
      have hJ8 : ∀ (_u : Unit), .inr () = φ9 → ∀ (H : Heap) (locs : List Loc) (ls : Array Slot), PW K N ad (cC K ad) A s.heap σ H locs → lv_has ls 7 [] → W p l e (rmF 3 42) s m args below meth c H locs 0 0 Q (F0 m 133 ls []) := by
        intro _u e9 H locs ls hw hl
        subst e9
        replace h := h_φ9
        refine lv_iconst (v := 0) hx hb dX0_findAtPlace_133 (by decide) ?_
        exact hE hw (congrArg Prod.fst (Option.some.inj h)) (congrArg Prod.snd (Option.some.inj h)) (Or.inl rfl) dX0_findAtPlace_134
      have hL7 : ∀ (n9 : Nat) (v6 : Int32), ∀ (H : Heap) (locs : List Loc) (ls : Array Slot), f_X0_findAtPlace_18 b l1 σ n9 v6 = some φ9 → PW K N ad (cC K ad) A s.heap σ H locs → lv_has ls 7 [(0, .ref (ad b)), (1, .int l1), (2, .int v6)] → W p l e (rmF 3 42) s m args below meth c H locs 0 0 Q (F0 m 18 ls []) := by
        intro n9
        induction n9 with
        | zero => intro v6 H locs ls h hw hl; rw [f_X0_findAtPlace_18.eq_1] at h; exact it_n h
        | succ n9 ih =>
          intro v6 H locs ls h hw hl
          rw [f_X0_findAtPlace_18.eq_2] at h
          refine lv_iload_n hx hb dX0_findAtPlace_18 rfl (lv_at hl 2 rfl) ?_
          refine lv_iload_n hx hb dX0_findAtPlace_19 rfl (lv_at hl 1 rfl) ?_
          refine lv_icmp_gt (tgt := 133) hx hb dX0_findAtPlace_20 (by decide) (fun c10 => ?_) (fun c10 => ?_)
          · replace h := it_t c10 h
            have e9 := Option.some.inj h
            subst e9
            exact hJ8 () rfl  H locs ls hw (lv_sub hl [] rfl)
          · replace h := it_f c10 h
            refine lv_iload_n hx hb dX0_findAtPlace_23 rfl (lv_at hl 2 rfl) ?_
            refine lv_iconst (v := 5) hx hb dX0_findAtPlace_24 (by decide) ?_
            refine lv_icmp_ge (tgt := 133) hx hb dX0_findAtPlace_25 (by decide) (fun c11 => ?_) (fun c11 => ?_)
            · replace h := it_t c11 h
              have e9 := Option.some.inj h
              subst e9
              exact hJ8 () rfl  H locs ls hw (lv_sub hl [] rfl)
            · replace h := it_f c11 h
              refine lv_aload_n hx hb dX0_findAtPlace_28 rfl (lv_at hl 0 rfl) ?_
              refine gC_B_1 hx_E hw hB fl_X0_9 dX0_findAtPlace_29 ?_
              refine lv_iload_n hx hb dX0_findAtPlace_32 rfl (lv_at hl 2 rfl) ?_
              obtain ⟨g12, h⟩ := it_g h
              refine aC_R hx_E hw hB g12 dX0_findAtPlace_33 ?_
              refine lv_i2l (v := (gI σ (b + 1) v6.toNatClampNeg).toInt64) hx hb dX0_findAtPlace_34 rfl ?_
              obtain ⟨v13, k14, h⟩ := it_b h
              refine kN_i (As := [.long ((gI σ (b + 1) v6.toNatClampNeg).toInt64)]) (rest := []) hx_E hw (c_X6_leastOf l K ((gI σ (b + 1) v6.toNatClampNeg).toInt64) k14) mi_X6_leastOf sm_X6_leastOf (hx_E.2.2.2.2.2.2.2.2.2.1) rfl ⟨⟨Nat.le_of_ble_eq_true rfl, Nat.le_of_ble_eq_true rfl⟩, rfl, rfl⟩ ⟨Nat.zero_le _, Nat.zero_le _⟩ hl.1 rfl (Nat.le_of_ble_eq_true rfl) dX0_findAtPlace_35 (fun H locs hw => ?_)
              refine lv_istore_n (lv' := [(3, .int v13), (0, .ref (ad b)), (1, .int l1), (2, .int v6)]) hx hb dX0_findAtPlace_38 rfl hl (by decide) rfl (fun ls hl => ?_)
              refine lv_iload_n hx hb dX0_findAtPlace_39 rfl (lv_at hl 3 rfl) ?_
              refine lv_iconst (v := 2) hx hb dX0_findAtPlace_40 (by decide) ?_
              obtain ⟨φ18, h9, h_φ18⟩ := it_b h
              have hJ17 : ∀ (v16 : Int32), v16 = φ18 → (v16 = 0 ∨ v16 = 1) → ∀ (H : Heap) (locs : List Loc) (ls : Array Slot), PW K N ad (cC K ad) A s.heap σ H locs → lv_has ls 7 [(0, .ref (ad b)), (1, .int l1), (2, .int v6), (3, .int v13)] → W p l e (rmF 3 42) s m args below meth c H locs 0 0 Q (F0 m 49 ls [.int v16]) := by
                intro v16 e9 z_v16 H locs ls hw hl
                subst e9
                replace h := h_φ18
                refine lv_istore (lv' := [(4, .int v16), (0, .ref (ad b)), (1, .int l1), (2, .int v6), (3, .int v13)]) hx hb dX0_findAtPlace_49 hl (by decide) rfl (fun ls hl => ?_)
                refine lv_iload hx hb dX0_findAtPlace_51 (lv_at hl 0 rfl) ?_
                refine lv_if_eq (tgt := 70) hx hb dX0_findAtPlace_53 (by decide) (fun c19 => ?_) (fun c19 => ?_)
                · replace h := it_t c19 h
                  refine lv_aload_n hx hb dX0_findAtPlace_70 rfl (lv_at hl 1 rfl) ?_
                  refine gC_B_0 hx_E hw hB fl_X0_25 dX0_findAtPlace_71 ?_
                  refine lv_iload_n hx hb dX0_findAtPlace_74 rfl (lv_at hl 4 rfl) ?_
                  obtain ⟨v20, k21, h⟩ := it_b h
                  refine kV_z (As := [.int v13]) (rest := []) (q := 0) hx_E hw (c_X1_hasCorner l K N hN ad hI  v13 σ k21) mi_X1_hasCorner mv_X1_hasCorner ml_X0_117 (Nat.lt_of_lt_of_le (by decide) hN) rfl rfl rfl ⟨⟨Nat.le_of_ble_eq_true rfl, Nat.le_of_ble_eq_true rfl⟩, rfl, rfl⟩ ⟨Nat.zero_le _, Nat.zero_le _⟩ hl.1 rfl (Nat.le_of_ble_eq_true rfl) dX0_findAtPlace_75 (fun z22 H locs hw => ?_)
                  refine lv_if_eq (tgt := 127) hx hb dX0_findAtPlace_78 (by decide) (fun c23 => ?_) (fun c23 => ?_)
                  · replace h := it_t c23 h
                    refine lv_iinc (v := (v6 + 1)) (lv' := [(2, .int (v6 + 1)), (4, .int v16), (0, .ref (ad b)), (1, .int l1), (3, .int v13)]) hx hb dX0_findAtPlace_127 hl (k := 3) rfl rfl (by decide) rfl (fun ls hl => ?_)
                    refine lv_goto (tgt := 18) hx hb dX0_findAtPlace_130 (by decide) ?_
                    exact ih _    H locs ls h hw (lv_sub hl [2, 3, 0] rfl)
                  · replace h := it_f c23 h
                    refine lv_iload hx hb dX0_findAtPlace_81 (lv_at hl 0 rfl) ?_
                    obtain ⟨φ27, h9, h_φ27⟩ := it_b h
                    have hJ26 : ∀ (v25 : Int64), v25 = φ27 → ∀ (H : Heap) (locs : List Loc) (ls : Array Slot), PW K N ad (cC K ad) A s.heap σ H locs → lv_has ls 7 [(0, .ref (ad b)), (2, .int v6), (3, .int v13)] → W p l e (rmF 3 42) s m args below meth c H locs 0 0 Q (F0 m 107 ls [.long v25]) := by
                      intro v25 e9 H locs ls hw hl
                      subst e9
                      replace h := h_φ27
                      refine lv_lstore (lv' := [(5, .long v25), (0, .ref (ad b)), (2, .int v6), (3, .int v13)]) hx hb dX0_findAtPlace_107 hl (by decide) rfl (fun ls hl => ?_)
                      refine lv_aload_n hx hb dX0_findAtPlace_109 rfl (lv_at hl 1 rfl) ?_
                      refine lv_iload_n hx hb dX0_findAtPlace_110 rfl (lv_at hl 2 rfl) ?_
                      refine lv_lload hx hb dX0_findAtPlace_111 (lv_at hl 0 rfl) ?_
                      refine lv_aload_n hx hb dX0_findAtPlace_113 rfl (lv_at hl 1 rfl) ?_
                      refine gC_B_3 hx_E hw hB fl_X0_50 dX0_findAtPlace_114 ?_
                      refine lv_land hx hb dX0_findAtPlace_117 ?_
                      obtain ⟨v30, k31, h⟩ := it_b h
                      refine kN_i (As := [.long (v25 &&& (gL σ b 3))]) (rest := [.int v6, .ref (ad b)]) hx_E hw (c_X6_leastOf l K (v25 &&& (gL σ b 3)) k31) mi_X6_leastOf sm_X6_leastOf (hx_E.2.2.2.2.2.2.2.2.2.1) rfl ⟨⟨Nat.le_of_ble_eq_true rfl, Nat.le_of_ble_eq_true rfl⟩, rfl, rfl⟩ ⟨Nat.zero_le _, Nat.zero_le _⟩ hl.1 rfl (Nat.le_of_ble_eq_true rfl) dX0_findAtPlace_118 (fun H locs hw => ?_)
                      refine lv_iload_n hx hb dX0_findAtPlace_121 rfl (lv_at hl 3 rfl) ?_
                      obtain ⟨σ32, k33, h⟩ := it_b h
                      refine kV_v (As := [.int v6, .int v30, .int v13]) (rest := []) (q := b) hx_E hw (c_X0_found l K N ad hI b hB v6 v30 v13 σ k33) mi_X0_found mv_X0_found ml_X0_130 (isB_lt hB) (cC_B hB _ _) rfl rfl ⟨⟨Nat.le_of_ble_eq_true rfl, Nat.le_of_ble_eq_true rfl⟩, rfl, rfl⟩ ⟨Nat.zero_le _, Nat.zero_le _⟩ hl.1 rfl (Nat.le_of_ble_eq_true rfl) dX0_findAtPlace_122 (fun H locs hw => ?_)
                      refine lv_iconst (v := 1) hx hb dX0_findAtPlace_125 (by decide) ?_
                      have e9 := Option.some.inj h
                      subst e9
                      replace h := h_φ9
                      exact hE hw (congrArg Prod.fst (Option.some.inj h)) (congrArg Prod.snd (Option.some.inj h)) (Or.inr rfl) dX0_findAtPlace_126
                    replace h := h9
                    refine lv_if_eq (tgt := 98) hx hb dX0_findAtPlace_83 (by decide) (fun c24 => ?_) (fun c24 => ?_)
                    · replace h := it_t c24 h
                      refine lv_aload_n hx hb dX0_findAtPlace_98 rfl (lv_at hl 1 rfl) ?_
                      refine gC_B_0 hx_E hw hB fl_X0_25 dX0_findAtPlace_99 ?_
                      refine gC_0_2 hx_E hw hN fl_X0_120 dX0_findAtPlace_102 ?_
                      refine lv_iload_n hx hb dX0_findAtPlace_105 rfl (lv_at hl 4 rfl) ?_
                      obtain ⟨g28, h⟩ := it_g h
                      refine aC_3 hx_E hw hN g28 dX0_findAtPlace_106 ?_
                      have e9 := Option.some.inj h
                      subst e9
                      exact hJ26 _ rfl  H locs ls hw (lv_sub hl [1, 3, 4] rfl)
                    · replace h := it_f c24 h
                      refine lv_aload_n hx hb dX0_findAtPlace_86 rfl (lv_at hl 1 rfl) ?_
                      refine gC_B_0 hx_E hw hB fl_X0_25 dX0_findAtPlace_87 ?_
                      refine gC_0_1 hx_E hw hN fl_X0_103 dX0_findAtPlace_90 ?_
                      refine lv_iload_n hx hb dX0_findAtPlace_93 rfl (lv_at hl 4 rfl) ?_
                      obtain ⟨g29, h⟩ := it_g h
                      refine aC_2 hx_E hw hN g29 dX0_findAtPlace_94 ?_
                      refine lv_goto (tgt := 107) hx hb dX0_findAtPlace_95 (by decide) ?_
                      have e9 := Option.some.inj h
                      subst e9
                      exact hJ26 _ rfl  H locs ls hw (lv_sub hl [1, 3, 4] rfl)
                · replace h := it_f c19 h
                  refine lv_aload_n hx hb dX0_findAtPlace_56 rfl (lv_at hl 1 rfl) ?_
                  refine gC_B_0 hx_E hw hB fl_X0_25 dX0_findAtPlace_57 ?_
                  refine lv_iload_n hx hb dX0_findAtPlace_60 rfl (lv_at hl 4 rfl) ?_
                  obtain ⟨v34, k35, h⟩ := it_b h
                  refine kV_z (As := [.int v13]) (rest := []) (q := 0) hx_E hw (c_X1_hasCell l K N hN ad hI  v13 σ k35) mi_X1_hasCell mv_X1_hasCell ml_X0_97 (Nat.lt_of_lt_of_le (by decide) hN) rfl rfl rfl ⟨⟨Nat.le_of_ble_eq_true rfl, Nat.le_of_ble_eq_true rfl⟩, rfl, rfl⟩ ⟨Nat.zero_le _, Nat.zero_le _⟩ hl.1 rfl (Nat.le_of_ble_eq_true rfl) dX0_findAtPlace_61 (fun z36 H locs hw => ?_)
                  refine lv_if_eq (tgt := 127) hx hb dX0_findAtPlace_64 (by decide) (fun c37 => ?_) (fun c37 => ?_)
                  · replace h := it_t c37 h
                    refine lv_iinc (v := (v6 + 1)) (lv' := [(2, .int (v6 + 1)), (4, .int v16), (0, .ref (ad b)), (1, .int l1), (3, .int v13)]) hx hb dX0_findAtPlace_127 hl (k := 3) rfl rfl (by decide) rfl (fun ls hl => ?_)
                    refine lv_goto (tgt := 18) hx hb dX0_findAtPlace_130 (by decide) ?_
                    exact ih _    H locs ls h hw (lv_sub hl [2, 3, 0] rfl)
                  · replace h := it_f c37 h
                    refine lv_goto (tgt := 81) hx hb dX0_findAtPlace_67 (by decide) ?_
                    refine lv_iload hx hb dX0_findAtPlace_81 (lv_at hl 0 rfl) ?_
                    obtain ⟨φ41, h9, h_φ41⟩ := it_b h
                    have hJ40 : ∀ (v39 : Int64), v39 = φ41 → ∀ (H : Heap) (locs : List Loc) (ls : Array Slot), PW K N ad (cC K ad) A s.heap σ H locs → lv_has ls 7 [(0, .ref (ad b)), (2, .int v6), (3, .int v13)] → W p l e (rmF 3 42) s m args below meth c H locs 0 0 Q (F0 m 107 ls [.long v39]) := by
                      intro v39 e9 H locs ls hw hl
                      subst e9
                      replace h := h_φ41
                      refine lv_lstore (lv' := [(5, .long v39), (0, .ref (ad b)), (2, .int v6), (3, .int v13)]) hx hb dX0_findAtPlace_107 hl (by decide) rfl (fun ls hl => ?_)
                      refine lv_aload_n hx hb dX0_findAtPlace_109 rfl (lv_at hl 1 rfl) ?_
                      refine lv_iload_n hx hb dX0_findAtPlace_110 rfl (lv_at hl 2 rfl) ?_
                      refine lv_lload hx hb dX0_findAtPlace_111 (lv_at hl 0 rfl) ?_
                      refine lv_aload_n hx hb dX0_findAtPlace_113 rfl (lv_at hl 1 rfl) ?_
                      refine gC_B_3 hx_E hw hB fl_X0_50 dX0_findAtPlace_114 ?_
                      refine lv_land hx hb dX0_findAtPlace_117 ?_
                      obtain ⟨v44, k45, h⟩ := it_b h
                      refine kN_i (As := [.long (v39 &&& (gL σ b 3))]) (rest := [.int v6, .ref (ad b)]) hx_E hw (c_X6_leastOf l K (v39 &&& (gL σ b 3)) k45) mi_X6_leastOf sm_X6_leastOf (hx_E.2.2.2.2.2.2.2.2.2.1) rfl ⟨⟨Nat.le_of_ble_eq_true rfl, Nat.le_of_ble_eq_true rfl⟩, rfl, rfl⟩ ⟨Nat.zero_le _, Nat.zero_le _⟩ hl.1 rfl (Nat.le_of_ble_eq_true rfl) dX0_findAtPlace_118 (fun H locs hw => ?_)
                      refine lv_iload_n hx hb dX0_findAtPlace_121 rfl (lv_at hl 3 rfl) ?_
                      obtain ⟨σ46, k47, h⟩ := it_b h
                      refine kV_v (As := [.int v6, .int v44, .int v13]) (rest := []) (q := b) hx_E hw (c_X0_found l K N ad hI b hB v6 v44 v13 σ k47) mi_X0_found mv_X0_found ml_X0_130 (isB_lt hB) (cC_B hB _ _) rfl rfl ⟨⟨Nat.le_of_ble_eq_true rfl, Nat.le_of_ble_eq_true rfl⟩, rfl, rfl⟩ ⟨Nat.zero_le _, Nat.zero_le _⟩ hl.1 rfl (Nat.le_of_ble_eq_true rfl) dX0_findAtPlace_122 (fun H locs hw => ?_)
                      refine lv_iconst (v := 1) hx hb dX0_findAtPlace_125 (by decide) ?_
                      have e9 := Option.some.inj h
                      subst e9
                      replace h := h_φ9
                      exact hE hw (congrArg Prod.fst (Option.some.inj h)) (congrArg Prod.snd (Option.some.inj h)) (Or.inr rfl) dX0_findAtPlace_126
                    replace h := h9
                    refine lv_if_eq (tgt := 98) hx hb dX0_findAtPlace_83 (by decide) (fun c38 => ?_) (fun c38 => ?_)
                    · replace h := it_t c38 h
                      refine lv_aload_n hx hb dX0_findAtPlace_98 rfl (lv_at hl 1 rfl) ?_
                      refine gC_B_0 hx_E hw hB fl_X0_25 dX0_findAtPlace_99 ?_
                      refine gC_0_2 hx_E hw hN fl_X0_120 dX0_findAtPlace_102 ?_
                      refine lv_iload_n hx hb dX0_findAtPlace_105 rfl (lv_at hl 4 rfl) ?_
                      obtain ⟨g42, h⟩ := it_g h
                      refine aC_3 hx_E hw hN g42 dX0_findAtPlace_106 ?_
                      have e9 := Option.some.inj h
                      subst e9
                      exact hJ40 _ rfl  H locs ls hw (lv_sub hl [1, 3, 4] rfl)
                    · replace h := it_f c38 h
                      refine lv_aload_n hx hb dX0_findAtPlace_86 rfl (lv_at hl 1 rfl) ?_
                      refine gC_B_0 hx_E hw hB fl_X0_25 dX0_findAtPlace_87 ?_
                      refine gC_0_1 hx_E hw hN fl_X0_103 dX0_findAtPlace_90 ?_
                      refine lv_iload_n hx hb dX0_findAtPlace_93 rfl (lv_at hl 4 rfl) ?_
                      obtain ⟨g43, h⟩ := it_g h
                      refine aC_2 hx_E hw hN g43 dX0_findAtPlace_94 ?_
                      refine lv_goto (tgt := 107) hx hb dX0_findAtPlace_95 (by decide) ?_
                      have e9 := Option.some.inj h
                      subst e9
                      exact hJ40 _ rfl  H locs ls hw (lv_sub hl [1, 3, 4] rfl)
              replace h := h9
              refine lv_icmp_ge (tgt := 48) hx hb dX0_findAtPlace_41 (by decide) (fun c15 => ?_) (fun c15 => ?_)
              · replace h := it_t c15 h
                refine lv_iconst (v := 0) hx hb dX0_findAtPlace_48 (by decide) ?_
                have e9 := Option.some.inj h
                subst e9
                exact hJ17 _ rfl (Or.inl rfl) H locs ls hw (lv_sub hl [1, 2, 3, 0] rfl)
              · replace h := it_f c15 h
                refine lv_iconst (v := 1) hx hb dX0_findAtPlace_44 (by decide) ?_
                refine lv_goto (tgt := 49) hx hb dX0_findAtPlace_45 (by decide) ?_
                have e9 := Option.some.inj h
                subst e9
                exact hJ17 _ rfl (Or.inr rfl) H locs ls hw (lv_sub hl [1, 2, 3, 0] rfl)
      exact hL7 600 _   H locs ls h9 hw (lv_sub hl [1, 2, 0] rfl)
    · replace h := it_f c5 h
      refine lv_iconst (v := 0) hx hb dX0_findAtPlace_14 (by decide) ?_
      exact hE hw (congrArg Prod.fst (Option.some.inj h)) (congrArg Prod.snd (Option.some.inj h)) (Or.inl rfl) dX0_findAtPlace_15
set_option maxHeartbeats 4000000 in
set_option maxRecDepth 100000 in
theorem c_X0_drawnAtEnd (l : Launch) (K : vK) (N : Nat) (ad : Nat → Nat) (hI : adInj N ad) (b : Nat) (hB : isB N b) (l1 : Int32) (l2 : Int32) (σ : vSt) {r : Int64} (h : f_X0_drawnAtEnd b l1 l2 σ = some r) : MCl l yX0_drawnAtEnd (wsY yX0_drawnAtEnd cX0_drawnAtEnd 4 (some .long)) (rmF 2 21) K N ad (cC K ad) [.ref (ad b), .int l1, .int l2] σ r σ := by
  refine MCl_of (own := RX0) (plainFor_of_name (by decide)) hI rfl (Nat.le_of_ble_eq_true rfl) ?_
  intro p e s m args below meth c A Q hx_E hE H locs ls hw hl
  have hx := hx_E.1; have hb := hx_E.2.1; have hown := hx_E.2.2.2.1; have hts := hx_E.2.2.2.2.1
  replace hl : lv_has ls 4 [(0, .ref (ad b)), (1, .int l1), (2, .int l2)] := hl
  have hN := isB_n6 hB
  unfold f_X0_drawnAtEnd at h
  refine lv_aload_n hx hb dX0_drawnAtEnd_0 rfl (lv_at hl 0 rfl) ?_
  refine gC_B_0 hx_E hw hB fl_X0_25 dX0_drawnAtEnd_1 ?_
  refine gC_0_4 hx_E hw hN fl_X0_86 dX0_drawnAtEnd_4 ?_
  refine lv_iconst (v := 2) hx hb dX0_drawnAtEnd_7 (by decide) ?_
  refine lv_iload_n hx hb dX0_drawnAtEnd_8 rfl (lv_at hl 1 rfl) ?_
  refine lv_imul hx hb dX0_drawnAtEnd_9 ?_
  refine lv_iload_n hx hb dX0_drawnAtEnd_10 rfl (lv_at hl 2 rfl) ?_
  refine lv_iadd hx hb dX0_drawnAtEnd_11 ?_
  obtain ⟨g1, h⟩ := it_g h
  refine aC_5 hx_E hw hN g1 dX0_drawnAtEnd_12 ?_
  obtain ⟨v2, e_v2, h⟩ := it_b h
  refine lt_topi (Option.some.inj e_v2) ?_
  refine lv_istore_n (lv' := [(3, .int v2), (0, .ref (ad b)), (1, .int l1), (2, .int l2)]) hx hb dX0_drawnAtEnd_13 rfl hl (by decide) rfl (fun ls hl => ?_)
  refine lv_aload_n hx hb dX0_drawnAtEnd_14 rfl (lv_at hl 1 rfl) ?_
  refine gC_B_0 hx_E hw hB fl_X0_25 dX0_drawnAtEnd_15 ?_
  refine lv_iload_n hx hb dX0_drawnAtEnd_18 rfl (lv_at hl 0 rfl) ?_
  obtain ⟨v3, k4, h⟩ := it_b h
  refine kV_z (As := [.int v2]) (rest := []) (q := 0) hx_E hw (c_X1_hasCorner l K N hN ad hI  v2 σ k4) mi_X1_hasCorner mv_X1_hasCorner ml_X0_117 (Nat.lt_of_lt_of_le (by decide) hN) rfl rfl rfl ⟨⟨Nat.le_of_ble_eq_true rfl, Nat.le_of_ble_eq_true rfl⟩, rfl, rfl⟩ ⟨Nat.zero_le _, Nat.zero_le _⟩ hl.1 rfl (Nat.le_of_ble_eq_true rfl) dX0_drawnAtEnd_19 (fun z5 H locs hw => ?_)
  refine lv_if_eq (tgt := 42) hx hb dX0_drawnAtEnd_22 (by decide) (fun c6 => ?_) (fun c6 => ?_)
  · replace h := it_t c6 h
    refine lv_lconst (v := 0) hx hb dX0_drawnAtEnd_42 (by decide) ?_
    exact hE hw (Option.some.inj h) rfl dX0_drawnAtEnd_43
  · replace h := it_f c6 h
    refine lv_aload_n hx hb dX0_drawnAtEnd_25 rfl (lv_at hl 1 rfl) ?_
    refine gC_B_0 hx_E hw hB fl_X0_25 dX0_drawnAtEnd_26 ?_
    refine gC_0_2 hx_E hw hN fl_X0_120 dX0_drawnAtEnd_29 ?_
    refine lv_iload_n hx hb dX0_drawnAtEnd_32 rfl (lv_at hl 0 rfl) ?_
    obtain ⟨g7, h⟩ := it_g h
    refine aC_3 hx_E hw hN g7 dX0_drawnAtEnd_33 ?_
    refine lv_aload_n hx hb dX0_drawnAtEnd_34 rfl (lv_at hl 1 rfl) ?_
    refine gC_B_2 hx_E hw hB fl_X0_47 dX0_drawnAtEnd_35 ?_
    refine lv_land hx hb dX0_drawnAtEnd_38 ?_
    refine lv_goto (tgt := 43) hx hb dX0_drawnAtEnd_39 (by decide) ?_
    exact hE hw (Option.some.inj h) rfl dX0_drawnAtEnd_43
set_option maxHeartbeats 4000000 in
set_option maxRecDepth 100000 in
theorem c_X0_meetsCounts (l : Launch) (K : vK) (N : Nat) (ad : Nat → Nat) (hI : adInj N ad) (b : Nat) (hB : isB N b) (l1 : Int64) (σ : vSt) {r : Int32} (h : f_X0_meetsCounts b l1 σ = some r) : MCz l yX0_meetsCounts (wsY yX0_meetsCounts cX0_meetsCounts 5 (some .boolean)) (rmF 2 21) K N ad (cC K ad) [.ref (ad b), .long l1] σ r σ := by
  refine MCz_of (own := RX0) (plainFor_of_name (by decide)) hI rfl (Nat.le_of_ble_eq_true rfl) ?_
  intro p e s m args below meth c A Q hx_E hE H locs ls hw hl
  have hx := hx_E.1; have hb := hx_E.2.1; have hown := hx_E.2.2.2.1; have hts := hx_E.2.2.2.2.1
  replace hl : lv_has ls 5 [(0, .ref (ad b)), (1, .long l1)] := hl
  have hN := isB_n6 hB
  unfold f_X0_meetsCounts at h
  refine lv_iconst (v := 0) hx hb dX0_meetsCounts_0 (by decide) ?_
  refine lv_istore_n (lv' := [(3, .int (0 : Int32)), (0, .ref (ad b)), (1, .long l1)]) hx hb dX0_meetsCounts_1 rfl hl (by decide) rfl (fun ls hl => ?_)
  obtain ⟨φ4, h9, h_φ4⟩ := it_b h
  have hJ3 : ∀ (_u : Unit), .inr () = φ4 → ∀ (H : Heap) (locs : List Loc) (ls : Array Slot), PW K N ad (cC K ad) A s.heap σ H locs → lv_has ls 5 [] → W p l e (rmF 2 21) s m args below meth c H locs 0 0 Q (F0 m 57 ls []) := by
    intro _u e9 H locs ls hw hl
    subst e9
    replace h := h_φ4
    refine lv_iconst (v := 1) hx hb dX0_meetsCounts_57 (by decide) ?_
    exact hE hw (Option.some.inj h) rfl (Or.inr rfl) dX0_meetsCounts_58
  have hL2 : ∀ (n9 : Nat) (v1 : Int32), ∀ (H : Heap) (locs : List Loc) (ls : Array Slot), f_X0_meetsCounts_2 l1 σ n9 v1 = some φ4 → PW K N ad (cC K ad) A s.heap σ H locs → lv_has ls 5 [(0, .ref (ad b)), (1, .long l1), (3, .int v1)] → W p l e (rmF 2 21) s m args below meth c H locs 0 0 Q (F0 m 2 ls []) := by
    intro n9
    induction n9 with
    | zero => intro v1 H locs ls h hw hl; rw [f_X0_meetsCounts_2.eq_1] at h; exact it_n h
    | succ n9 ih =>
      intro v1 H locs ls h hw hl
      rw [f_X0_meetsCounts_2.eq_2] at h
      refine lv_iload_n hx hb dX0_meetsCounts_2 rfl (lv_at hl 2 rfl) ?_
      refine lv_aload_n hx hb dX0_meetsCounts_3 rfl (lv_at hl 0 rfl) ?_
      refine gC_B_0 hx_E hw hB fl_X0_25 dX0_meetsCounts_4 ?_
      refine gC_0_7 hx_E hw hN fl_X0_59 dX0_meetsCounts_7 ?_
      refine lv_icmp_ge (tgt := 57) hx hb dX0_meetsCounts_10 (by decide) (fun c5 => ?_) (fun c5 => ?_)
      · replace h := it_t c5 h
        have e9 := Option.some.inj h
        subst e9
        exact hJ3 () rfl  H locs ls hw (lv_sub hl [] rfl)
      · replace h := it_f c5 h
        refine lv_aload_n hx hb dX0_meetsCounts_13 rfl (lv_at hl 0 rfl) ?_
        refine gC_B_0 hx_E hw hB fl_X0_25 dX0_meetsCounts_14 ?_
        refine gC_0_0 hx_E hw hN fl_X0_100 dX0_meetsCounts_17 ?_
        refine lv_iload_n hx hb dX0_meetsCounts_20 rfl (lv_at hl 2 rfl) ?_
        obtain ⟨g6, h⟩ := it_g h
        refine aC_1 hx_E hw hN g6 dX0_meetsCounts_21 ?_
        obtain ⟨v7, e_v7, h⟩ := it_b h
        refine lt_topi (Option.some.inj e_v7) ?_
        refine lv_istore (lv' := [(4, .int v7), (0, .ref (ad b)), (1, .long l1), (3, .int v1)]) hx hb dX0_meetsCounts_22 hl (by decide) rfl (fun ls hl => ?_)
        refine lv_iload hx hb dX0_meetsCounts_24 (lv_at hl 0 rfl) ?_
        refine lv_iconst (v := -1) hx hb dX0_meetsCounts_26 (by decide) ?_
        refine lv_icmp_eq (tgt := 51) hx hb dX0_meetsCounts_27 (by decide) (fun c8 => ?_) (fun c8 => ?_)
        · replace h := it_t c8 h
          refine lv_iinc (v := (v1 + 1)) (lv' := [(3, .int (v1 + 1)), (4, .int v7), (0, .ref (ad b)), (1, .long l1)]) hx hb dX0_meetsCounts_51 hl (k := 3) rfl rfl (by decide) rfl (fun ls hl => ?_)
          refine lv_goto (tgt := 2) hx hb dX0_meetsCounts_54 (by decide) ?_
          exact ih _    H locs ls h hw (lv_sub hl [2, 3, 0] rfl)
        · replace h := it_f c8 h
          refine lv_aload_n hx hb dX0_meetsCounts_30 rfl (lv_at hl 1 rfl) ?_
          refine gC_B_0 hx_E hw hB fl_X0_25 dX0_meetsCounts_31 ?_
          refine gC_0_1 hx_E hw hN fl_X0_103 dX0_meetsCounts_34 ?_
          refine lv_iload_n hx hb dX0_meetsCounts_37 rfl (lv_at hl 3 rfl) ?_
          obtain ⟨g9, h⟩ := it_g h
          refine aC_2 hx_E hw hN g9 dX0_meetsCounts_38 ?_
          refine lv_lload_n hx hb dX0_meetsCounts_39 rfl (lv_at hl 2 rfl) ?_
          refine lv_land hx hb dX0_meetsCounts_40 ?_
          obtain ⟨v10, k11, h⟩ := it_b h
          refine kS_i (As := [.long ((gL σ 2 v1.toNatClampNeg) &&& l1)]) (rest := []) hx_E hw (c_J13_bitCount_95d88 l K ((gL σ 2 v1.toNatClampNeg) &&& l1) k11) mi_J13_bitCount_95d88 sm_J13_bitCount_95d88 ml_X0_107 rfl ⟨⟨Nat.le_of_ble_eq_true rfl, Nat.le_of_ble_eq_true rfl⟩, rfl, rfl⟩ ⟨Nat.zero_le _, Nat.zero_le _⟩ hl.1 rfl (Nat.le_of_ble_eq_true rfl) dX0_meetsCounts_41 (fun H locs hw => ?_)
          refine lv_iload hx hb dX0_meetsCounts_44 (lv_at hl 0 rfl) ?_
          refine lv_icmp_eq (tgt := 51) hx hb dX0_meetsCounts_46 (by decide) (fun c12 => ?_) (fun c12 => ?_)
          · replace h := it_t c12 h
            refine lv_iinc (v := (v1 + 1)) (lv' := [(3, .int (v1 + 1)), (4, .int v7), (0, .ref (ad b)), (1, .long l1)]) hx hb dX0_meetsCounts_51 hl (k := 3) rfl rfl (by decide) rfl (fun ls hl => ?_)
            refine lv_goto (tgt := 2) hx hb dX0_meetsCounts_54 (by decide) ?_
            exact ih _    H locs ls h hw (lv_sub hl [2, 3, 0] rfl)
          · replace h := it_f c12 h
            refine lv_iconst (v := 0) hx hb dX0_meetsCounts_49 (by decide) ?_
            have e9 := Option.some.inj h
            subst e9
            replace h := h_φ4
            exact hE hw (Option.some.inj h) rfl (Or.inl rfl) dX0_meetsCounts_50
  exact hL2 600 _   H locs ls h9 hw (lv_sub hl [1, 2, 0] rfl)
set_option maxHeartbeats 4000000 in
set_option maxRecDepth 100000 in
theorem c_X0_findClosing (l : Launch) (K : vK) (N : Nat) (ad : Nat → Nat) (hI : adInj N ad) (b : Nat) (hB : isB N b) (σ : vSt) {r : Int32} {σ' : vSt} (h : f_X0_findClosing b σ = some (r, σ')) : MCz l yX0_findClosing (wsY yX0_findClosing cX0_findClosing 11 (some .boolean)) (rmF 3 45) K N ad (cC K ad) [.ref (ad b)] σ r σ' := by
  refine MCz_of (own := RX0) (plainFor_of_name (by decide)) hI rfl (Nat.le_of_ble_eq_true rfl) ?_
  intro p e s m args below meth c A Q hx_E hE H locs ls hw hl
  have hx := hx_E.1; have hb := hx_E.2.1; have hown := hx_E.2.2.2.1; have hts := hx_E.2.2.2.2.1
  replace hl : lv_has ls 11 [(0, .ref (ad b))] := hl
  have hN := isB_n6 hB
  unfold f_X0_findClosing at h
  refine lv_aload_n hx hb dX0_findClosing_0 rfl (lv_at hl 0 rfl) ?_
  obtain ⟨v1, k2, h⟩ := it_b h
  refine kV_z (As := []) (rest := []) (q := b) hx_E hw (c_X0_fits l K N ad hI b hB  σ k2) mi_X0_fits mv_X0_fits ml_X0_43 (isB_lt hB) (cC_B hB _ _) rfl rfl ⟨⟨Nat.le_of_ble_eq_true rfl, Nat.le_of_ble_eq_true rfl⟩, rfl, rfl⟩ ⟨Nat.zero_le _, Nat.zero_le _⟩ hl.1 rfl (Nat.le_of_ble_eq_true rfl) dX0_findClosing_1 (fun z3 H locs hw => ?_)
  refine lv_if_eq (tgt := 14) hx hb dX0_findClosing_4 (by decide) (fun c4 => ?_) (fun c4 => ?_)
  · replace h := it_t c4 h
    refine lv_iconst (v := 0) hx hb dX0_findClosing_14 (by decide) ?_
    exact hE hw (congrArg Prod.fst (Option.some.inj h)) (congrArg Prod.snd (Option.some.inj h)) (Or.inl rfl) dX0_findClosing_15
  · replace h := it_f c4 h
    refine lv_aload_n hx hb dX0_findClosing_7 rfl (lv_at hl 0 rfl) ?_
    refine gC_B_9 hx_E hw hB fl_X0_39 dX0_findClosing_8 ?_
    refine lv_if_eq (tgt := 16) hx hb dX0_findClosing_11 (by decide) (fun c5 => ?_) (fun c5 => ?_)
    · replace h := it_t c5 h
      refine lv_iconst (v := 0) hx hb dX0_findClosing_16 (by decide) ?_
      refine lv_istore_n (lv' := [(1, .int (0 : Int32)), (0, .ref (ad b))]) hx hb dX0_findClosing_17 rfl hl (by decide) rfl (fun ls hl => ?_)
      obtain ⟨φ9, h9, h_φ9⟩ := it_b h
      have hJ8 : ∀ (_u : Unit), .inr () = φ9 → ∀ (H : Heap) (locs : List Loc) (ls : Array Slot), PW K N ad (cC K ad) A s.heap σ H locs → lv_has ls 11 [] → W p l e (rmF 3 45) s m args below meth c H locs 0 0 Q (F0 m 145 ls []) := by
        intro _u e9 H locs ls hw hl
        subst e9
        replace h := h_φ9
        refine lv_iconst (v := 0) hx hb dX0_findClosing_145 (by decide) ?_
        exact hE hw (congrArg Prod.fst (Option.some.inj h)) (congrArg Prod.snd (Option.some.inj h)) (Or.inl rfl) dX0_findClosing_146
      have hL7 : ∀ (n9 : Nat) (v6 : Int32), ∀ (H : Heap) (locs : List Loc) (ls : Array Slot), f_X0_findClosing_18 b σ n9 v6 = some φ9 → PW K N ad (cC K ad) A s.heap σ H locs → lv_has ls 11 [(0, .ref (ad b)), (1, .int v6)] → W p l e (rmF 3 45) s m args below meth c H locs 0 0 Q (F0 m 18 ls []) := by
        intro n9
        induction n9 with
        | zero => intro v6 H locs ls h hw hl; rw [f_X0_findClosing_18.eq_1] at h; exact it_n h
        | succ n9 ih =>
          intro v6 H locs ls h hw hl
          rw [f_X0_findClosing_18.eq_2] at h
          refine lv_iload_n hx hb dX0_findClosing_18 rfl (lv_at hl 1 rfl) ?_
          refine lv_aload_n hx hb dX0_findClosing_19 rfl (lv_at hl 0 rfl) ?_
          refine gC_B_0 hx_E hw hB fl_X0_25 dX0_findClosing_20 ?_
          refine gC_0_9 hx_E hw hN fl_X0_134 dX0_findClosing_23 ?_
          refine lv_icmp_ge (tgt := 145) hx hb dX0_findClosing_26 (by decide) (fun c10 => ?_) (fun c10 => ?_)
          · replace h := it_t c10 h
            have e9 := Option.some.inj h
            subst e9
            exact hJ8 () rfl  H locs ls hw (lv_sub hl [] rfl)
          · replace h := it_f c10 h
            refine lv_lconst (v := 1) hx hb dX0_findClosing_29 (by decide) ?_
            refine lv_iload_n hx hb dX0_findClosing_30 rfl (lv_at hl 1 rfl) ?_
            refine lv_lshl (v := (o_lshl (1 : Int64) v6)) hx hb dX0_findClosing_31 rfl ?_
            obtain ⟨v11, e_v11, h⟩ := it_b h
            refine lt_topl (Option.some.inj e_v11) ?_
            refine lv_lstore_n (lv' := [(2, .long v11), (0, .ref (ad b)), (1, .int v6)]) hx hb dX0_findClosing_32 rfl hl (by decide) rfl (fun ls hl => ?_)
            refine lv_aload_n hx hb dX0_findClosing_33 rfl (lv_at hl 1 rfl) ?_
            refine lv_iload_n hx hb dX0_findClosing_34 rfl (lv_at hl 2 rfl) ?_
            refine lv_iconst (v := 0) hx hb dX0_findClosing_35 (by decide) ?_
            obtain ⟨v12, k13, h⟩ := it_b h
            refine kV_l (As := [.int v6, .int (0 : Int32)]) (rest := []) (q := b) hx_E hw (c_X0_drawnAtEnd l K N ad hI b hB v6 (0 : Int32) σ k13) mi_X0_drawnAtEnd mv_X0_drawnAtEnd ml_X0_137 (isB_lt hB) (cC_B hB _ _) rfl rfl ⟨⟨Nat.le_of_ble_eq_true rfl, Nat.le_of_ble_eq_true rfl⟩, rfl, rfl⟩ ⟨Nat.zero_le _, Nat.zero_le _⟩ hl.1 rfl (Nat.le_of_ble_eq_true rfl) dX0_findClosing_36 (fun H locs hw => ?_)
            refine lv_lstore (lv' := [(4, .long v12), (2, .long v11), (0, .ref (ad b)), (1, .int v6)]) hx hb dX0_findClosing_39 hl (by decide) rfl (fun ls hl => ?_)
            refine lv_aload_n hx hb dX0_findClosing_41 rfl (lv_at hl 2 rfl) ?_
            refine lv_iload_n hx hb dX0_findClosing_42 rfl (lv_at hl 3 rfl) ?_
            refine lv_iconst (v := 1) hx hb dX0_findClosing_43 (by decide) ?_
            obtain ⟨v14, k15, h⟩ := it_b h
            refine kV_l (As := [.int v6, .int (1 : Int32)]) (rest := []) (q := b) hx_E hw (c_X0_drawnAtEnd l K N ad hI b hB v6 (1 : Int32) σ k15) mi_X0_drawnAtEnd mv_X0_drawnAtEnd ml_X0_137 (isB_lt hB) (cC_B hB _ _) rfl rfl ⟨⟨Nat.le_of_ble_eq_true rfl, Nat.le_of_ble_eq_true rfl⟩, rfl, rfl⟩ ⟨Nat.zero_le _, Nat.zero_le _⟩ hl.1 rfl (Nat.le_of_ble_eq_true rfl) dX0_findClosing_44 (fun H locs hw => ?_)
            refine lv_lstore (lv' := [(6, .long v14), (4, .long v12), (2, .long v11), (0, .ref (ad b)), (1, .int v6)]) hx hb dX0_findClosing_47 hl (by decide) rfl (fun ls hl => ?_)
            refine lv_aload_n hx hb dX0_findClosing_49 rfl (lv_at hl 3 rfl) ?_
            refine gC_B_3 hx_E hw hB fl_X0_50 dX0_findClosing_50 ?_
            refine lv_lload_n hx hb dX0_findClosing_53 rfl (lv_at hl 2 rfl) ?_
            refine lv_land hx hb dX0_findClosing_54 ?_
            refine lv_lconst (v := 0) hx hb dX0_findClosing_55 (by decide) ?_
            refine W.lcmp hx hb dX0_findClosing_56 ?_
            refine lv_if_eq (tgt := 139) hx hb dX0_findClosing_57 (by decide) (fun c16 => ?_) (fun c16 => ?_)
            · replace h := it_t c16 h
              refine lv_iinc (v := (v6 + 1)) (lv' := [(1, .int (v6 + 1)), (6, .long v14), (4, .long v12), (2, .long v11), (0, .ref (ad b))]) hx hb dX0_findClosing_139 hl (k := 4) rfl rfl (by decide) rfl (fun ls hl => ?_)
              refine lv_goto (tgt := 18) hx hb dX0_findClosing_142 (by decide) ?_
              exact ih _    H locs ls h hw (lv_sub hl [4, 0] rfl)
            · replace h := it_f c16 h
              refine lv_lload hx hb dX0_findClosing_60 (lv_at hl 1 rfl) ?_
              refine lv_lconst (v := 0) hx hb dX0_findClosing_62 (by decide) ?_
              refine W.lcmp hx hb dX0_findClosing_63 ?_
              refine lv_if_eq (tgt := 139) hx hb dX0_findClosing_64 (by decide) (fun c17 => ?_) (fun c17 => ?_)
              · replace h := it_t c17 h
                refine lv_iinc (v := (v6 + 1)) (lv' := [(1, .int (v6 + 1)), (6, .long v14), (4, .long v12), (2, .long v11), (0, .ref (ad b))]) hx hb dX0_findClosing_139 hl (k := 4) rfl rfl (by decide) rfl (fun ls hl => ?_)
                refine lv_goto (tgt := 18) hx hb dX0_findClosing_142 (by decide) ?_
                exact ih _    H locs ls h hw (lv_sub hl [4, 0] rfl)
              · replace h := it_f c17 h
                refine lv_lload hx hb dX0_findClosing_67 (lv_at hl 0 rfl) ?_
                refine lv_lconst (v := 0) hx hb dX0_findClosing_69 (by decide) ?_
                refine W.lcmp hx hb dX0_findClosing_70 ?_
                refine lv_if_ne (tgt := 77) hx hb dX0_findClosing_71 (by decide) (fun c18 => ?_) (fun c18 => ?_)
                · replace h := it_f c18 h
                  refine lv_aload_n hx hb dX0_findClosing_77 rfl (lv_at hl 3 rfl) ?_
                  refine lv_lload hx hb dX0_findClosing_78 (lv_at hl 1 rfl) ?_
                  obtain ⟨v19, k20, h⟩ := it_b h
                  refine kV_l (As := [.long v12]) (rest := []) (q := b) hx_E hw (c_X0_wayOf l K N ad hI b hB v12 σ k20) mi_X0_wayOf mv_X0_wayOf ml_X0_89 (isB_lt hB) (cC_B hB _ _) rfl rfl ⟨⟨Nat.le_of_ble_eq_true rfl, Nat.le_of_ble_eq_true rfl⟩, rfl, rfl⟩ ⟨Nat.zero_le _, Nat.zero_le _⟩ hl.1 rfl (Nat.le_of_ble_eq_true rfl) dX0_findClosing_80 (fun H locs hw => ?_)
                  refine lv_lstore (lv' := [(8, .long v19), (6, .long v14), (4, .long v12), (2, .long v11), (0, .ref (ad b)), (1, .int v6)]) hx hb dX0_findClosing_83 hl (by decide) rfl (fun ls hl => ?_)
                  refine lv_lload hx hb dX0_findClosing_85 (lv_at hl 0 rfl) ?_
                  refine lv_lload hx hb dX0_findClosing_87 (lv_at hl 1 rfl) ?_
                  refine lv_land hx hb dX0_findClosing_89 ?_
                  refine lv_lconst (v := 0) hx hb dX0_findClosing_90 (by decide) ?_
                  refine W.lcmp hx hb dX0_findClosing_91 ?_
                  obtain ⟨φ24, h9, h_φ24⟩ := it_b h
                  have hJ23 : ∀ (v22 : Int32), v22 = φ24 → (v22 = 0 ∨ v22 = 1) → ∀ (H : Heap) (locs : List Loc) (ls : Array Slot), PW K N ad (cC K ad) A s.heap σ H locs → lv_has ls 11 [(0, .ref (ad b)), (1, .int v6), (2, .long v11), (8, .long v19)] → W p l e (rmF 3 45) s m args below meth c H locs 0 0 Q (F0 m 100 ls [.int v22]) := by
                    intro v22 e9 z_v22 H locs ls hw hl
                    subst e9
                    replace h := h_φ24
                    refine lv_istore (lv' := [(10, .int v22), (0, .ref (ad b)), (1, .int v6), (2, .long v11), (8, .long v19)]) hx hb dX0_findClosing_100 hl (by decide) rfl (fun ls hl => ?_)
                    refine lv_iload hx hb dX0_findClosing_102 (lv_at hl 0 rfl) ?_
                    refine lv_if_eq (tgt := 139) hx hb dX0_findClosing_104 (by decide) (fun c25 => ?_) (fun c25 => ?_)
                    · replace h := it_t c25 h
                      refine lv_iinc (v := (v6 + 1)) (lv' := [(1, .int (v6 + 1)), (10, .int v22), (0, .ref (ad b)), (2, .long v11), (8, .long v19)]) hx hb dX0_findClosing_139 hl (k := 2) rfl rfl (by decide) rfl (fun ls hl => ?_)
                      refine lv_goto (tgt := 18) hx hb dX0_findClosing_142 (by decide) ?_
                      exact ih _    H locs ls h hw (lv_sub hl [2, 0] rfl)
                    · replace h := it_f c25 h
                      refine lv_lload hx hb dX0_findClosing_107 (lv_at hl 4 rfl) ?_
                      refine lv_aload_n hx hb dX0_findClosing_109 rfl (lv_at hl 1 rfl) ?_
                      refine gC_B_2 hx_E hw hB fl_X0_47 dX0_findClosing_110 ?_
                      refine W.lcmp hx hb dX0_findClosing_113 ?_
                      refine lv_if_ne (tgt := 130) hx hb dX0_findClosing_114 (by decide) (fun c26 => ?_) (fun c26 => ?_)
                      · replace h := it_f c26 h
                        refine lv_aload_n hx hb dX0_findClosing_130 rfl (lv_at hl 1 rfl) ?_
                        refine lv_iconst (v := 5) hx hb dX0_findClosing_131 (by decide) ?_
                        refine lv_iload_n hx hb dX0_findClosing_132 rfl (lv_at hl 2 rfl) ?_
                        refine lv_iconst (v := -1) hx hb dX0_findClosing_133 (by decide) ?_
                        obtain ⟨σ27, k28, h⟩ := it_b h
                        refine kV_v (As := [.int (5 : Int32), .int v6, .int (-1 : Int32)]) (rest := []) (q := b) hx_E hw (c_X0_found l K N ad hI b hB (5 : Int32) v6 (-1 : Int32) σ k28) mi_X0_found mv_X0_found ml_X0_130 (isB_lt hB) (cC_B hB _ _) rfl rfl ⟨⟨Nat.le_of_ble_eq_true rfl, Nat.le_of_ble_eq_true rfl⟩, rfl, rfl⟩ ⟨Nat.zero_le _, Nat.zero_le _⟩ hl.1 rfl (Nat.le_of_ble_eq_true rfl) dX0_findClosing_134 (fun H locs hw => ?_)
                        refine lv_iconst (v := 1) hx hb dX0_findClosing_137 (by decide) ?_
                        have e9 := Option.some.inj h
                        subst e9
                        replace h := h_φ9
                        exact hE hw (congrArg Prod.fst (Option.some.inj h)) (congrArg Prod.snd (Option.some.inj h)) (Or.inr rfl) dX0_findClosing_138
                      · replace h := it_t c26 h
                        refine lv_aload_n hx hb dX0_findClosing_117 rfl (lv_at hl 1 rfl) ?_
                        refine lv_aload_n hx hb dX0_findClosing_118 rfl (lv_at hl 1 rfl) ?_
                        refine gC_B_2 hx_E hw hB fl_X0_47 dX0_findClosing_119 ?_
                        refine lv_lload_n hx hb dX0_findClosing_122 rfl (lv_at hl 3 rfl) ?_
                        refine lv_lor hx hb dX0_findClosing_123 ?_
                        obtain ⟨v29, k30, h⟩ := it_b h
                        refine kV_z (As := [.long ((gL σ b 2) ||| v11)]) (rest := []) (q := b) hx_E hw (c_X0_meetsCounts l K N ad hI b hB ((gL σ b 2) ||| v11) σ k30) mi_X0_meetsCounts mv_X0_meetsCounts ml_X0_141 (isB_lt hB) (cC_B hB _ _) rfl rfl ⟨⟨Nat.le_of_ble_eq_true rfl, Nat.le_of_ble_eq_true rfl⟩, rfl, rfl⟩ ⟨Nat.zero_le _, Nat.zero_le _⟩ hl.1 rfl (Nat.le_of_ble_eq_true rfl) dX0_findClosing_124 (fun z31 H locs hw => ?_)
                        refine lv_if_ne (tgt := 139) hx hb dX0_findClosing_127 (by decide) (fun c32 => ?_) (fun c32 => ?_)
                        · replace h := it_f c32 h
                          refine lv_iinc (v := (v6 + 1)) (lv' := [(1, .int (v6 + 1)), (10, .int v22), (0, .ref (ad b)), (2, .long v11), (8, .long v19)]) hx hb dX0_findClosing_139 hl (k := 2) rfl rfl (by decide) rfl (fun ls hl => ?_)
                          refine lv_goto (tgt := 18) hx hb dX0_findClosing_142 (by decide) ?_
                          exact ih _    H locs ls h hw (lv_sub hl [2, 0] rfl)
                        · replace h := it_t c32 h
                          refine lv_aload_n hx hb dX0_findClosing_130 rfl (lv_at hl 1 rfl) ?_
                          refine lv_iconst (v := 5) hx hb dX0_findClosing_131 (by decide) ?_
                          refine lv_iload_n hx hb dX0_findClosing_132 rfl (lv_at hl 2 rfl) ?_
                          refine lv_iconst (v := -1) hx hb dX0_findClosing_133 (by decide) ?_
                          obtain ⟨σ33, k34, h⟩ := it_b h
                          refine kV_v (As := [.int (5 : Int32), .int v6, .int (-1 : Int32)]) (rest := []) (q := b) hx_E hw (c_X0_found l K N ad hI b hB (5 : Int32) v6 (-1 : Int32) σ k34) mi_X0_found mv_X0_found ml_X0_130 (isB_lt hB) (cC_B hB _ _) rfl rfl ⟨⟨Nat.le_of_ble_eq_true rfl, Nat.le_of_ble_eq_true rfl⟩, rfl, rfl⟩ ⟨Nat.zero_le _, Nat.zero_le _⟩ hl.1 rfl (Nat.le_of_ble_eq_true rfl) dX0_findClosing_134 (fun H locs hw => ?_)
                          refine lv_iconst (v := 1) hx hb dX0_findClosing_137 (by decide) ?_
                          have e9 := Option.some.inj h
                          subst e9
                          replace h := h_φ9
                          exact hE hw (congrArg Prod.fst (Option.some.inj h)) (congrArg Prod.snd (Option.some.inj h)) (Or.inr rfl) dX0_findClosing_138
                  replace h := h9
                  refine lv_if_eq (tgt := 99) hx hb dX0_findClosing_92 (by decide) (fun c21 => ?_) (fun c21 => ?_)
                  · replace h := it_t c21 h
                    refine lv_iconst (v := 0) hx hb dX0_findClosing_99 (by decide) ?_
                    have e9 := Option.some.inj h
                    subst e9
                    exact hJ23 _ rfl (Or.inl rfl) H locs ls hw (lv_sub hl [4, 5, 3, 0] rfl)
                  · replace h := it_f c21 h
                    refine lv_iconst (v := 1) hx hb dX0_findClosing_95 (by decide) ?_
                    refine lv_goto (tgt := 100) hx hb dX0_findClosing_96 (by decide) ?_
                    have e9 := Option.some.inj h
                    subst e9
                    exact hJ23 _ rfl (Or.inr rfl) H locs ls hw (lv_sub hl [4, 5, 3, 0] rfl)
                · replace h := it_t c18 h
                  refine lv_goto (tgt := 139) hx hb dX0_findClosing_74 (by decide) ?_
                  refine lv_iinc (v := (v6 + 1)) (lv' := [(1, .int (v6 + 1)), (6, .long v14), (4, .long v12), (2, .long v11), (0, .ref (ad b))]) hx hb dX0_findClosing_139 hl (k := 4) rfl rfl (by decide) rfl (fun ls hl => ?_)
                  refine lv_goto (tgt := 18) hx hb dX0_findClosing_142 (by decide) ?_
                  exact ih _    H locs ls h hw (lv_sub hl [4, 0] rfl)
      exact hL7 600 _   H locs ls h9 hw (lv_sub hl [1, 0] rfl)
    · replace h := it_f c5 h
      refine lv_iconst (v := 0) hx hb dX0_findClosing_14 (by decide) ?_
      exact hE hw (congrArg Prod.fst (Option.some.inj h)) (congrArg Prod.snd (Option.some.inj h)) (Or.inl rfl) dX0_findClosing_15
