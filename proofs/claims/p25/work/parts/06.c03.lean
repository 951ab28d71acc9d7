set_option maxHeartbeats 4000000 in
set_option maxRecDepth 100000 in
theorem c_X0_copyFrom (l : Launch) (K : vK) (N : Nat) (ad : Nat → Nat) (hI : adInj N ad) (b : Nat) (hB : isB N b) (b2 : Nat) (hB2 : isB N b2) (σ : vSt) {σ' : vSt} (h : f_X0_copyFrom b b2 σ = some σ') : MCv l yX0_copyFrom (wsY yX0_copyFrom cX0_copyFrom 3 none) (rmF 1 0) K N ad (cC K ad) [.ref (ad b), .ref (ad b2)] σ σ' := by
  refine MCv_of (own := RX0) (plainFor_of_name (by decide)) hI rfl (Nat.le_of_ble_eq_true rfl) ?_
  intro p e s m args below meth c A Q hx_E hE H locs ls hw hl
  have hx := hx_E.1; have hb := hx_E.2.1; have hown := hx_E.2.2.2.1; have hts := hx_E.2.2.2.2.1
  replace hl : lv_has ls 3 [(0, .ref (ad b)), (1, .ref (ad b2))] := hl
  have hN := isB_n6 hB
  unfold f_X0_copyFrom at h
  refine lv_aload_n hx hb dX0_copyFrom_0 rfl (lv_at hl 0 rfl) ?_
  refine lv_aload_n hx hb dX0_copyFrom_1 rfl (lv_at hl 1 rfl) ?_
  refine gC_B_2 hx_E hw hB2 fl_X0_47 dX0_copyFrom_2 ?_
  refine pC_B_2 hx_E hw hB fl_X0_47 dX0_copyFrom_5 (fun H locs hw => ?_)
  refine lv_aload_n hx hb dX0_copyFrom_8 rfl (lv_at hl 0 rfl) ?_
  refine lv_aload_n hx hb dX0_copyFrom_9 rfl (lv_at hl 1 rfl) ?_
  refine gC_B_3 hx_E hw hB2 fl_X0_50 dX0_copyFrom_10 ?_
  refine pC_B_3 hx_E hw hB fl_X0_50 dX0_copyFrom_13 (fun H locs hw => ?_)
  refine lv_aload_n hx hb dX0_copyFrom_16 rfl (lv_at hl 0 rfl) ?_
  refine lv_aload_n hx hb dX0_copyFrom_17 rfl (lv_at hl 1 rfl) ?_
  refine gC_B_4 hx_E hw hB2 fl_X0_29 dX0_copyFrom_18 ?_
  refine pC_B_4 hx_E hw hB fl_X0_29 dX0_copyFrom_21 (fun H locs hw => ?_)
  refine lv_aload_n hx hb dX0_copyFrom_24 rfl (lv_at hl 0 rfl) ?_
  refine lv_aload_n hx hb dX0_copyFrom_25 rfl (lv_at hl 1 rfl) ?_
  refine gC_B_5 hx_E hw hB2 fl_X0_53 dX0_copyFrom_26 ?_
  refine pC_B_5 hx_E hw hB fl_X0_53 dX0_copyFrom_29 (fun H locs hw => ?_)
  refine lv_aload_n hx hb dX0_copyFrom_32 rfl (lv_at hl 0 rfl) ?_
  refine lv_aload_n hx hb dX0_copyFrom_33 rfl (lv_at hl 1 rfl) ?_
  refine gC_B_6 hx_E hw hB2 fl_X0_32 dX0_copyFrom_34 ?_
  refine pC_B_6 hx_E hw hB fl_X0_32 dX0_copyFrom_37 (fun H locs hw => ?_)
  refine lv_aload_n hx hb dX0_copyFrom_40 rfl (lv_at hl 0 rfl) ?_
  refine lv_aload_n hx hb dX0_copyFrom_41 rfl (lv_at hl 1 rfl) ?_
  refine gC_B_7 hx_E hw hB2 fl_X0_56 dX0_copyFrom_42 ?_
  refine pC_B_7 hx_E hw hB fl_X0_56 dX0_copyFrom_45 (fun H locs hw => ?_)
  refine lv_aload_n hx hb dX0_copyFrom_48 rfl (lv_at hl 0 rfl) ?_
  refine lv_aload_n hx hb dX0_copyFrom_49 rfl (lv_at hl 1 rfl) ?_
  refine gC_B_8 hx_E hw hB2 fl_X0_35 dX0_copyFrom_50 ?_
  refine pC_B_8 hx_E hw hB fl_X0_35 dX0_copyFrom_53 (fun H locs hw => ?_)
  refine lv_aload_n hx hb dX0_copyFrom_56 rfl (lv_at hl 0 rfl) ?_
  refine lv_aload_n hx hb dX0_copyFrom_57 rfl (lv_at hl 1 rfl) ?_
  refine gC_B_9 hx_E hw hB2 fl_X0_39 dX0_copyFrom_58 ?_
  obtain ⟨g1, h⟩ := it_g h
  refine pC_B_9 hx_E hw hB g1 fl_X0_39 dX0_copyFrom_61 (fun H locs hw => ?_)
  refine lv_iconst (v := 0) hx hb dX0_copyFrom_64 (by decide) ?_
  refine lv_istore_n (lv' := [(2, .int (0 : Int32)), (0, .ref (ad b)), (1, .ref (ad b2))]) hx hb dX0_copyFrom_65 rfl hl (by decide) rfl (fun ls hl => ?_)
  obtain ⟨σ2, e_σ2, h⟩ := it_b h
  replace hw := PW_cast (Option.some.inj e_σ2) hw
  obtain ⟨φ8, h9, h_φ8⟩ := it_b h
  have hJ7 : ∀ (σ5 : vSt), σ5 = φ8 → ∀ (H : Heap) (locs : List Loc) (ls : Array Slot), PW K N ad (cC K ad) A s.heap σ5 H locs → lv_has ls 3 [] → W p l e (rmF 1 0) s m args below meth c H locs 0 0 Q (F0 m 89 ls []) := by
    intro σ5 e9 H locs ls hw hl
    subst e9
    replace h := h_φ8
    exact hE hw (Option.some.inj h) dX0_copyFrom_89
  have hL6 : ∀ (n9 : Nat) (v3 : Int32) (σ4 : vSt), ∀ (H : Heap) (locs : List Loc) (ls : Array Slot), f_X0_copyFrom_66 b b2 n9 v3 σ4 = some φ8 → PW K N ad (cC K ad) A s.heap σ4 H locs → lv_has ls 3 [(0, .ref (ad b)), (1, .ref (ad b2)), (2, .int v3)] → W p l e (rmF 1 0) s m args below meth c H locs 0 0 Q (F0 m 66 ls []) := by
    intro n9
    induction n9 with
    | zero => intro v3 σ4 H locs ls h hw hl; rw [f_X0_copyFrom_66.eq_1] at h; exact it_n h
    | succ n9 ih =>
      intro v3 σ4 H locs ls h hw hl
      rw [f_X0_copyFrom_66.eq_2] at h
      refine lv_iload_n hx hb dX0_copyFrom_66 rfl (lv_at hl 2 rfl) ?_
      refine lv_iconst (v := 5) hx hb dX0_copyFrom_67 (by decide) ?_
      refine lv_icmp_ge (tgt := 89) hx hb dX0_copyFrom_68 (by decide) (fun c9 => ?_) (fun c9 => ?_)
      · replace h := it_t c9 h
        have e9 := Option.some.inj h
        subst e9
        exact hJ7 _ rfl  H locs ls hw (lv_sub hl [] rfl)
      · replace h := it_f c9 h
        refine lv_aload_n hx hb dX0_copyFrom_71 rfl (lv_at hl 0 rfl) ?_
        refine gC_B_1 hx_E hw hB fl_X0_9 dX0_copyFrom_72 ?_
        refine lv_iload_n hx hb dX0_copyFrom_75 rfl (lv_at hl 2 rfl) ?_
        refine lv_aload_n hx hb dX0_copyFrom_76 rfl (lv_at hl 1 rfl) ?_
        refine gC_B_1 hx_E hw hB2 fl_X0_9 dX0_copyFrom_77 ?_
        refine lv_iload_n hx hb dX0_copyFrom_80 rfl (lv_at hl 2 rfl) ?_
        obtain ⟨g10, h⟩ := it_g h
        refine aC_R hx_E hw hB2 g10 dX0_copyFrom_81 ?_
        obtain ⟨g11, h⟩ := it_g h
        refine sC_R hx_E hw hB g11 dX0_copyFrom_82 (fun H locs hw => ?_)
        refine lv_iinc (v := (v3 + 1)) (lv' := [(2, .int (v3 + 1)), (0, .ref (ad b)), (1, .ref (ad b2))]) hx hb dX0_copyFrom_83 hl (k := 2) rfl rfl (by decide) rfl (fun ls hl => ?_)
        refine lv_goto (tgt := 66) hx hb dX0_copyFrom_86 (by decide) ?_
        exact ih _ _   H locs ls h hw (lv_sub hl [1, 2, 0] rfl)
  exact hL6 600 _ _   H locs ls h9 hw (lv_sub hl [1, 2, 0] rfl)
set_option maxHeartbeats 4000000 in
set_option maxRecDepth 100000 in
theorem c_X0_settleEdge (l : Launch) (K : vK) (N : Nat) (ad : Nat → Nat) (hI : adInj N ad) (b : Nat) (hB : isB N b) (l1 : Int32) (l2 : Int32) (σ : vSt) {σ' : vSt} (h : f_X0_settleEdge b l1 l2 σ = some σ') : MCv l yX0_settleEdge (wsY yX0_settleEdge cX0_settleEdge 5 none) (rmF 3 46) K N ad (cC K ad) [.ref (ad b), .int l1, .int l2] σ σ' := by
  refine MCv_of (own := RX0) (plainFor_of_name (by decide)) hI rfl (Nat.le_of_ble_eq_true rfl) ?_
  intro p e s m args below meth c A Q hx_E hE H locs ls hw hl
  have hx := hx_E.1; have hb := hx_E.2.1; have hown := hx_E.2.2.2.1; have hts := hx_E.2.2.2.2.1
  replace hl : lv_has ls 5 [(0, .ref (ad b)), (1, .int l1), (2, .int l2)] := hl
  have hN := isB_n6 hB
  unfold f_X0_settleEdge at h
  refine lv_aload_n hx hb dX0_settleEdge_0 rfl (lv_at hl 0 rfl) ?_
  refine gC_B_0 hx_E hw hB fl_X0_25 dX0_settleEdge_1 ?_
  refine lv_iload_n hx hb dX0_settleEdge_4 rfl (lv_at hl 1 rfl) ?_
  obtain ⟨v1, k2, h⟩ := it_b h
  refine kV_z (As := [.int l1]) (rest := []) (q := 0) hx_E hw (c_X1_hasEdge l K N hN ad hI  l1 σ k2) mi_X1_hasEdge mv_X1_hasEdge ml_X0_77 (Nat.lt_of_lt_of_le (by decide) hN) rfl rfl rfl ⟨⟨Nat.le_of_ble_eq_true rfl, Nat.le_of_ble_eq_true rfl⟩, rfl, rfl⟩ ⟨Nat.zero_le _, Nat.zero_le _⟩ hl.1 rfl (Nat.le_of_ble_eq_true rfl) dX0_settleEdge_5 (fun z3 H locs hw => ?_)
  refine lv_if_ne (tgt := 12) hx hb dX0_settleEdge_8 (by decide) (fun c4 => ?_) (fun c4 => ?_)
  · replace h := it_f c4 h
    refine lv_lconst (v := 1) hx hb dX0_settleEdge_12 (by decide) ?_
    refine lv_iload_n hx hb dX0_settleEdge_13 rfl (lv_at hl 1 rfl) ?_
    refine lv_lshl (v := (o_lshl (1 : Int64) l1)) hx hb dX0_settleEdge_14 rfl ?_
    obtain ⟨v5, e_v5, h⟩ := it_b h
    refine lt_topl (Option.some.inj e_v5) ?_
    refine lv_lstore_n (lv' := [(3, .long v5), (0, .ref (ad b)), (1, .int l1), (2, .int l2)]) hx hb dX0_settleEdge_15 rfl hl (by decide) rfl (fun ls hl => ?_)
    refine lv_aload_n hx hb dX0_settleEdge_16 rfl (lv_at hl 1 rfl) ?_
    refine lv_dup hx hb dX0_settleEdge_17 rfl ?_
    refine gC_B_3 hx_E hw hB fl_X0_50 dX0_settleEdge_18 ?_
    refine lv_lload_n hx hb dX0_settleEdge_21 rfl (lv_at hl 0 rfl) ?_
    refine lv_ldc2 (v := -1) hx hb hown (hts _ kl_X0_81) dX0_settleEdge_22 ?_
    refine lv_lxor hx hb dX0_settleEdge_25 ?_
    refine lv_land hx hb dX0_settleEdge_26 ?_
    refine pC_B_3 hx_E hw hB fl_X0_50 dX0_settleEdge_27 (fun H locs hw => ?_)
    refine lv_iload_n hx hb dX0_settleEdge_30 rfl (lv_at hl 3 rfl) ?_
    refine lv_iconst (v := 1) hx hb dX0_settleEdge_31 (by decide) ?_
    obtain ⟨φ9, h9, h_φ9⟩ := it_b h
    have hJ8 : ∀ (σ7 : vSt), σ7 = φ9 → ∀ (H : Heap) (locs : List Loc) (ls : Array Slot), PW K N ad (cC K ad) A s.heap σ7 H locs → lv_has ls 5 [(0, .ref (ad b)), (1, .int l1), (2, .int l2), (3, .long v5)] → W p l e (rmF 3 46) s m args below meth c H locs 0 0 Q (F0 m 45 ls []) := by
      intro σ7 e9 H locs ls hw hl
      subst e9
      replace h := h_φ9
      refine lv_aload_n hx hb dX0_settleEdge_45 rfl (lv_at hl 0 rfl) ?_
      refine lv_aload_n hx hb dX0_settleEdge_46 rfl (lv_at hl 0 rfl) ?_
      refine gC_B_0 hx_E hw hB fl_X0_25 dX0_settleEdge_47 ?_
      refine gC_0_3 hx_E hw hN fl_X0_83 dX0_settleEdge_50 ?_
      refine lv_iconst (v := 2) hx hb dX0_settleEdge_53 (by decide) ?_
      refine lv_iload_n hx hb dX0_settleEdge_54 rfl (lv_at hl 1 rfl) ?_
      refine lv_imul hx hb dX0_settleEdge_55 ?_
      obtain ⟨g10, h⟩ := it_g h
      refine aC_4 hx_E hw hN g10 dX0_settleEdge_56 ?_
      obtain ⟨σ11, k12, h⟩ := it_b h
      refine kV_v (As := [.int (gI σ7 4 ((2 : Int32) * l1).toNatClampNeg)]) (rest := []) (q := b) hx_E hw (c_X0_lookAtCell l K N ad hI b hB (gI σ7 4 ((2 : Int32) * l1).toNatClampNeg) σ7 k12) mi_X0_lookAtCell mv_X0_lookAtCell ml_X0_64 (isB_lt hB) (cC_B hB _ _) rfl rfl ⟨⟨Nat.le_of_ble_eq_true rfl, Nat.le_of_ble_eq_true rfl⟩, rfl, rfl⟩ ⟨Nat.zero_le _, Nat.zero_le _⟩ hl.1 rfl (Nat.le_of_ble_eq_true rfl) dX0_settleEdge_57 (fun H locs hw => ?_)
      refine lv_aload_n hx hb dX0_settleEdge_60 rfl (lv_at hl 0 rfl) ?_
      refine lv_aload_n hx hb dX0_settleEdge_61 rfl (lv_at hl 0 rfl) ?_
      refine gC_B_0 hx_E hw hB fl_X0_25 dX0_settleEdge_62 ?_
      refine gC_0_3 hx_E hw hN fl_X0_83 dX0_settleEdge_65 ?_
      refine lv_iconst (v := 2) hx hb dX0_settleEdge_68 (by decide) ?_
      refine lv_iload_n hx hb dX0_settleEdge_69 rfl (lv_at hl 1 rfl) ?_
      refine lv_imul hx hb dX0_settleEdge_70 ?_
      refine lv_iconst (v := 1) hx hb dX0_settleEdge_71 (by decide) ?_
      refine lv_iadd hx hb dX0_settleEdge_72 ?_
      obtain ⟨g13, h⟩ := it_g h
      refine aC_4 hx_E hw hN g13 dX0_settleEdge_73 ?_
      obtain ⟨σ14, k15, h⟩ := it_b h
      refine kV_v (As := [.int (gI σ11 4 (((2 : Int32) * l1) + (1 : Int32)).toNatClampNeg)]) (rest := []) (q := b) hx_E hw (c_X0_lookAtCell l K N ad hI b hB (gI σ11 4 (((2 : Int32) * l1) + (1 : Int32)).toNatClampNeg) σ11 k15) mi_X0_lookAtCell mv_X0_lookAtCell ml_X0_64 (isB_lt hB) (cC_B hB _ _) rfl rfl ⟨⟨Nat.le_of_ble_eq_true rfl, Nat.le_of_ble_eq_true rfl⟩, rfl, rfl⟩ ⟨Nat.zero_le _, Nat.zero_le _⟩ hl.1 rfl (Nat.le_of_ble_eq_true rfl) dX0_settleEdge_74 (fun H locs hw => ?_)
      refine lv_aload_n hx hb dX0_settleEdge_77 rfl (lv_at hl 0 rfl) ?_
      refine lv_aload_n hx hb dX0_settleEdge_78 rfl (lv_at hl 0 rfl) ?_
      refine gC_B_0 hx_E hw hB fl_X0_25 dX0_settleEdge_79 ?_
      refine gC_0_4 hx_E hw hN fl_X0_86 dX0_settleEdge_82 ?_
      refine lv_iconst (v := 2) hx hb dX0_settleEdge_85 (by decide) ?_
      refine lv_iload_n hx hb dX0_settleEdge_86 rfl (lv_at hl 1 rfl) ?_
      refine lv_imul hx hb dX0_settleEdge_87 ?_
      obtain ⟨g16, h⟩ := it_g h
      refine aC_5 hx_E hw hN g16 dX0_settleEdge_88 ?_
      obtain ⟨σ17, k18, h⟩ := it_b h
      refine kV_v (As := [.int (gI σ14 5 ((2 : Int32) * l1).toNatClampNeg)]) (rest := []) (q := b) hx_E hw (c_X0_lookAtCorner l K N ad hI b hB (gI σ14 5 ((2 : Int32) * l1).toNatClampNeg) σ14 k18) mi_X0_lookAtCorner mv_X0_lookAtCorner ml_X0_71 (isB_lt hB) (cC_B hB _ _) rfl rfl ⟨⟨Nat.le_of_ble_eq_true rfl, Nat.le_of_ble_eq_true rfl⟩, rfl, rfl⟩ ⟨Nat.zero_le _, Nat.zero_le _⟩ hl.1 rfl (Nat.le_of_ble_eq_true rfl) dX0_settleEdge_89 (fun H locs hw => ?_)
      refine lv_aload_n hx hb dX0_settleEdge_92 rfl (lv_at hl 0 rfl) ?_
      refine lv_aload_n hx hb dX0_settleEdge_93 rfl (lv_at hl 0 rfl) ?_
      refine gC_B_0 hx_E hw hB fl_X0_25 dX0_settleEdge_94 ?_
      refine gC_0_4 hx_E hw hN fl_X0_86 dX0_settleEdge_97 ?_
      refine lv_iconst (v := 2) hx hb dX0_settleEdge_100 (by decide) ?_
      refine lv_iload_n hx hb dX0_settleEdge_101 rfl (lv_at hl 1 rfl) ?_
      refine lv_imul hx hb dX0_settleEdge_102 ?_
      refine lv_iconst (v := 1) hx hb dX0_settleEdge_103 (by decide) ?_
      refine lv_iadd hx hb dX0_settleEdge_104 ?_
      obtain ⟨g19, h⟩ := it_g h
      refine aC_5 hx_E hw hN g19 dX0_settleEdge_105 ?_
      obtain ⟨σ20, k21, h⟩ := it_b h
      refine kV_v (As := [.int (gI σ17 5 (((2 : Int32) * l1) + (1 : Int32)).toNatClampNeg)]) (rest := []) (q := b) hx_E hw (c_X0_lookAtCorner l K N ad hI b hB (gI σ17 5 (((2 : Int32) * l1) + (1 : Int32)).toNatClampNeg) σ17 k21) mi_X0_lookAtCorner mv_X0_lookAtCorner ml_X0_71 (isB_lt hB) (cC_B hB _ _) rfl rfl ⟨⟨Nat.le_of_ble_eq_true rfl, Nat.le_of_ble_eq_true rfl⟩, rfl, rfl⟩ ⟨Nat.zero_le _, Nat.zero_le _⟩ hl.1 rfl (Nat.le_of_ble_eq_true rfl) dX0_settleEdge_106 (fun H locs hw => ?_)
      refine lv_iload_n hx hb dX0_settleEdge_109 rfl (lv_at hl 2 rfl) ?_
      refine lv_iconst (v := 1) hx hb dX0_settleEdge_110 (by decide) ?_
      refine lv_icmp_ne (tgt := 123) hx hb dX0_settleEdge_111 (by decide) (fun c22 => ?_) (fun c22 => ?_)
      · replace h := it_f c22 h
        exact hE hw (Option.some.inj h) dX0_settleEdge_123
      · replace h := it_t c22 h
        refine lv_aload_n hx hb dX0_settleEdge_114 rfl (lv_at hl 0 rfl) ?_
        refine lv_aload_n hx hb dX0_settleEdge_115 rfl (lv_at hl 0 rfl) ?_
        refine lv_lload_n hx hb dX0_settleEdge_116 rfl (lv_at hl 3 rfl) ?_
        obtain ⟨v23, k24, h⟩ := it_b h
        refine kV_l (As := [.long v5]) (rest := [.ref (ad b)]) (q := b) hx_E hw (c_X0_wayOf l K N ad hI b hB v5 σ20 k24) mi_X0_wayOf mv_X0_wayOf ml_X0_89 (isB_lt hB) (cC_B hB _ _) rfl rfl ⟨⟨Nat.le_of_ble_eq_true rfl, Nat.le_of_ble_eq_true rfl⟩, rfl, rfl⟩ ⟨Nat.zero_le _, Nat.zero_le _⟩ hl.1 rfl (Nat.le_of_ble_eq_true rfl) dX0_settleEdge_117 (fun H locs hw => ?_)
        obtain ⟨σ25, k26, h⟩ := it_b h
        refine kV_v (As := [.long v23]) (rest := []) (q := b) hx_E hw (c_X0_lookAtWay l K N ad hI b hB v23 σ20 k26) mi_X0_lookAtWay mv_X0_lookAtWay ml_X0_93 (isB_lt hB) (cC_B hB _ _) rfl rfl ⟨⟨Nat.le_of_ble_eq_true rfl, Nat.le_of_ble_eq_true rfl⟩, rfl, rfl⟩ ⟨Nat.zero_le _, Nat.zero_le _⟩ hl.1 rfl (Nat.le_of_ble_eq_true rfl) dX0_settleEdge_120 (fun H locs hw => ?_)
        exact hE hw (Option.some.inj h) dX0_settleEdge_123
    replace h := h9
    refine lv_icmp_ne (tgt := 45) hx hb dX0_settleEdge_32 (by decide) (fun c6 => ?_) (fun c6 => ?_)
    · replace h := it_f c6 h
      have e9 := Option.some.inj h
      subst e9
      exact hJ8 _ rfl  H locs ls hw (lv_sub hl [1, 2, 3, 0] rfl)
    · replace h := it_t c6 h
      refine lv_aload_n hx hb dX0_settleEdge_35 rfl (lv_at hl 1 rfl) ?_
      refine lv_dup hx hb dX0_settleEdge_36 rfl ?_
      refine gC_B_2 hx_E hw hB fl_X0_47 dX0_settleEdge_37 ?_
      refine lv_lload_n hx hb dX0_settleEdge_40 rfl (lv_at hl 0 rfl) ?_
      refine lv_lor hx hb dX0_settleEdge_41 ?_
      refine pC_B_2 hx_E hw hB fl_X0_47 dX0_settleEdge_42 (fun H locs hw => ?_)
      have e9 := Option.some.inj h
      subst e9
      exact hJ8 _ rfl  H locs ls hw (lv_sub hl [1, 2, 3, 0] rfl)
  · replace h := it_t c4 h
    exact hE hw (Option.some.inj h) dX0_settleEdge_11
set_option maxHeartbeats 4000000 in
set_option maxRecDepth 100000 in
theorem c_X0_settle (l : Launch) (K : vK) (N : Nat) (ad : Nat → Nat) (hI : adInj N ad) (b : Nat) (hB : isB N b) (σ : vSt) {σ' : vSt} (h : f_X0_settle b σ = some σ') : MCv l yX0_settle (wsY yX0_settle cX0_settle 2 none) (rmF 4 75) K N ad (cC K ad) [.ref (ad b)] σ σ' := by
  refine MCv_of (own := RX0) (plainFor_of_name (by decide)) hI rfl (Nat.le_of_ble_eq_true rfl) ?_
  intro p e s m args below meth c A Q hx_E hE H locs ls hw hl
  have hx := hx_E.1; have hb := hx_E.2.1; have hown := hx_E.2.2.2.1; have hts := hx_E.2.2.2.2.1
  replace hl : lv_has ls 2 [(0, .ref (ad b))] := hl
  have hN := isB_n6 hB
  unfold f_X0_settle at h
  refine lv_iconst (v := 0) hx hb dX0_settle_0 (by decide) ?_
  refine lv_istore_n (lv' := [(1, .int (0 : Int32)), (0, .ref (ad b))]) hx hb dX0_settle_1 rfl hl (by decide) rfl (fun ls hl => ?_)
  obtain ⟨φ6, h9, h_φ6⟩ := it_b h
  have hJ5 : ∀ (σ3 : vSt), .inr σ3 = φ6 → ∀ (H : Heap) (locs : List Loc) (ls : Array Slot), PW K N ad (cC K ad) A s.heap σ3 H locs → lv_has ls 2 [] → W p l e (rmF 4 75) s m args below meth c H locs 0 0 Q (F0 m 45 ls []) := by
    intro σ3 e9 H locs ls hw hl
    subst e9
    replace h := h_φ6
    exact hE hw (Option.some.inj h) dX0_settle_45
  have hL4 : ∀ (n9 : Nat) (v1 : Int32) (σ2 : vSt), ∀ (H : Heap) (locs : List Loc) (ls : Array Slot), f_X0_settle_2 b n9 v1 σ2 = some φ6 → PW K N ad (cC K ad) A s.heap σ2 H locs → lv_has ls 2 [(0, .ref (ad b)), (1, .int v1)] → W p l e (rmF 4 75) s m args below meth c H locs 0 0 Q (F0 m 2 ls []) := by
    intro n9
    induction n9 with
    | zero => intro v1 σ2 H locs ls h hw hl; rw [f_X0_settle_2.eq_1] at h; exact it_n h
    | succ n9 ih =>
      intro v1 σ2 H locs ls h hw hl
      rw [f_X0_settle_2.eq_2] at h
      refine lv_iload_n hx hb dX0_settle_2 rfl (lv_at hl 1 rfl) ?_
      refine lv_bipush (v := 40) hx hb dX0_settle_3 (by decide) ?_
      refine lv_icmp_ge (tgt := 45) hx hb dX0_settle_5 (by decide) (fun c7 => ?_) (fun c7 => ?_)
      · replace h := it_t c7 h
        have e9 := Option.some.inj h
        subst e9
        exact hJ5 _ rfl  H locs ls hw (lv_sub hl [] rfl)
      · replace h := it_f c7 h
        refine lv_aload_n hx hb dX0_settle_8 rfl (lv_at hl 0 rfl) ?_
        refine lv_iconst (v := 4) hx hb dX0_settle_9 (by decide) ?_
        obtain ⟨⟨v8, σ9⟩, k10, h⟩ := it_b h
        refine kV_z (As := [.int (4 : Int32)]) (rest := []) (q := b) hx_E hw (c_X0_findAtPlace l K N ad hI b hB (4 : Int32) σ2 k10) mi_X0_findAtPlace mv_X0_findAtPlace ml_X0_152 (isB_lt hB) (cC_B hB _ _) rfl rfl ⟨⟨Nat.le_of_ble_eq_true rfl, Nat.le_of_ble_eq_true rfl⟩, rfl, rfl⟩ ⟨Nat.zero_le _, Nat.zero_le _⟩ hl.1 rfl (Nat.le_of_ble_eq_true rfl) dX0_settle_10 (fun z11 H locs hw => ?_)
        obtain ⟨φ15, h9, h_φ15⟩ := it_b h
        have hJ14 : ∀ (σ13 : vSt), .inr σ13 = φ15 → ∀ (H : Heap) (locs : List Loc) (ls : Array Slot), PW K N ad (cC K ad) A s.heap σ13 H locs → lv_has ls 2 [(0, .ref (ad b)), (1, .int v1)] → W p l e (rmF 4 75) s m args below meth c H locs 0 0 Q (F0 m 24 ls []) := by
          intro σ13 e9 H locs ls hw hl
          subst e9
          replace h := h_φ15
          refine lv_aload_n hx hb dX0_settle_24 rfl (lv_at hl 0 rfl) ?_
          refine lv_aload_n hx hb dX0_settle_25 rfl (lv_at hl 0 rfl) ?_
          refine gC_B_11 hx_E hw hB fl_X0_19 dX0_settle_26 ?_
          refine lv_aload_n hx hb dX0_settle_29 rfl (lv_at hl 0 rfl) ?_
          refine gC_B_10 hx_E hw hB fl_X0_15 dX0_settle_30 ?_
          obtain ⟨v21, k22, h⟩ := it_b h
          refine kN_i (As := [.int (gI σ13 b 10)]) (rest := [.int (gI σ13 b 11), .ref (ad b)]) hx_E hw (c_X6_becomes l K (gI σ13 b 10) k22) mi_X6_becomes sm_X6_becomes (hx_E.2.2.2.2.2.2.2.2.2.2.1) rfl ⟨⟨Nat.le_of_ble_eq_true rfl, Nat.le_of_ble_eq_true rfl⟩, rfl, rfl⟩ ⟨Nat.zero_le _, Nat.zero_le _⟩ hl.1 rfl (Nat.le_of_ble_eq_true rfl) dX0_settle_33 (fun H locs hw => ?_)
          obtain ⟨σ23, k24, h⟩ := it_b h
          refine kV_v (As := [.int (gI σ13 b 11), .int v21]) (rest := []) (q := b) hx_E hw (c_X0_settleEdge l K N ad hI b hB (gI σ13 b 11) v21 σ13 k24) mi_X0_settleEdge mv_X0_settleEdge ml_X0_148 (isB_lt hB) (cC_B hB _ _) rfl rfl ⟨⟨Nat.le_of_ble_eq_true rfl, Nat.le_of_ble_eq_true rfl⟩, rfl, rfl⟩ ⟨Nat.zero_le _, Nat.zero_le _⟩ hl.1 rfl (Nat.le_of_ble_eq_true rfl) dX0_settle_36 (fun H locs hw => ?_)
          refine lv_iinc (v := (v1 + 1)) (lv' := [(1, .int (v1 + 1)), (0, .ref (ad b))]) hx hb dX0_settle_39 hl (k := 1) rfl rfl (by decide) rfl (fun ls hl => ?_)
          refine lv_goto (tgt := 2) hx hb dX0_settle_42 (by decide) ?_
          exact ih _ _   H locs ls h hw (lv_sub hl [1, 0] rfl)
        replace h := h9
        refine lv_if_ne (tgt := 24) hx hb dX0_settle_13 (by decide) (fun c12 => ?_) (fun c12 => ?_)
        · replace h := it_f c12 h
          have e9 := Option.some.inj h
          subst e9
          exact hJ14 _ rfl  H locs ls hw (lv_sub hl [0, 1] rfl)
        · replace h := it_t c12 h
          refine lv_aload_n hx hb dX0_settle_16 rfl (lv_at hl 0 rfl) ?_
          obtain ⟨⟨v16, σ17⟩, k18, h⟩ := it_b h
          refine kV_z (As := []) (rest := []) (q := b) hx_E hw (c_X0_findClosing l K N ad hI b hB  σ9 k18) mi_X0_findClosing mv_X0_findClosing ml_X0_155 (isB_lt hB) (cC_B hB _ _) rfl rfl ⟨⟨Nat.le_of_ble_eq_true rfl, Nat.le_of_ble_eq_true rfl⟩, rfl, rfl⟩ ⟨Nat.zero_le _, Nat.zero_le _⟩ hl.1 rfl (Nat.le_of_ble_eq_true rfl) dX0_settle_17 (fun z19 H locs hw => ?_)
          refine lv_if_ne (tgt := 24) hx hb dX0_settle_20 (by decide) (fun c20 => ?_) (fun c20 => ?_)
          · replace h := it_f c20 h
            have e9 := Option.some.inj h
            subst e9
            exact hJ14 _ rfl  H locs ls hw (lv_sub hl [0, 1] rfl)
          · replace h := it_t c20 h
            have e9 := Option.some.inj h
            subst e9
            replace h := h_φ15
            have e9 := Option.some.inj h
            subst e9
            replace h := h_φ6
            exact hE hw (Option.some.inj h) dX0_settle_23
  exact hL4 600 _ _   H locs ls h9 hw (lv_sub hl [1, 0] rfl)
set_option maxHeartbeats 4000000 in
set_option maxRecDepth 100000 in
theorem c_X4_findNext (l : Launch) (K : vK) (ad : Nat → Nat) (hI : adInj 30 ad) (b : Nat) (hB : isB 30 b) (l2 : Int32) (σ : vSt) {r : Int32} {σ' : vSt} (h : f_X4_findNext b l2 σ = some (r, σ')) : MCz l yX4_findNext (wsY yX4_findNext cX4_findNext 6 (some .boolean)) (rmF 5 96) K 30 ad (cC K ad) [.ref (ad 10), .ref (ad b), .int l2] σ r σ' := by
  refine MCz_of (own := RX4) (plainFor_of_name (by decide)) hI rfl (Nat.le_of_ble_eq_true rfl) ?_
  intro p e s m args below meth c A Q hx_E hE H locs ls hw hl
  have hx := hx_E.1; have hb := hx_E.2.1; have hown := hx_E.2.2.2.1; have hts := hx_E.2.2.2.2.1
  replace hl : lv_has ls 6 [(0, .ref (ad 10)), (1, .ref (ad b)), (2, .int l2)] := hl
  unfold f_X4_findNext at h
  refine lv_aload_n hx hb dX4_findNext_0 rfl (lv_at hl 1 rfl) ?_
  refine lv_iload_n hx hb dX4_findNext_1 rfl (lv_at hl 2 rfl) ?_
  obtain ⟨⟨v1, σ2⟩, k3, h⟩ := it_b h
  refine kV_z (As := [.int l2]) (rest := []) (q := b) hx_E hw (c_X0_findAtPlace l K 30 ad hI b hB l2 σ k3) mi_X0_findAtPlace mv_X0_findAtPlace ml_X4_27 (isB_lt hB) (cC_B hB _ _) rfl rfl ⟨⟨Nat.le_of_ble_eq_true rfl, Nat.le_of_ble_eq_true rfl⟩, rfl, rfl⟩ ⟨Nat.zero_le _, Nat.zero_le _⟩ hl.1 rfl (Nat.le_of_ble_eq_true rfl) dX4_findNext_2 (fun z4 H locs hw => ?_)
  refine lv_if_ne (tgt := 20) hx hb dX4_findNext_5 (by decide) (fun c5 => ?_) (fun c5 => ?_)
  · replace h := it_f c5 h
    refine lv_iconst (v := 1) hx hb dX4_findNext_20 (by decide) ?_
    exact hE hw (congrArg Prod.fst (Option.some.inj h)) (congrArg Prod.snd (Option.some.inj h)) (Or.inr rfl) dX4_findNext_21
  · replace h := it_t c5 h
    refine lv_iload_n hx hb dX4_findNext_8 rfl (lv_at hl 2 rfl) ?_
    refine lv_iconst (v := 5) hx hb dX4_findNext_9 (by decide) ?_
    obtain ⟨φ9, h9, h_φ9⟩ := it_b h
    have hJ8 : ∀ (σ7 : vSt), .inr σ7 = φ9 → ∀ (H : Heap) (locs : List Loc) (ls : Array Slot), PW K 30 ad (cC K ad) A s.heap σ7 H locs → lv_has ls 6 [(0, .ref (ad 10)), (1, .ref (ad b)), (2, .int l2)] → W p l e (rmF 5 96) s m args below meth c H locs 0 0 Q (F0 m 22 ls []) := by
      intro σ7 e9 H locs ls hw hl
      subst e9
      replace h := h_φ9
      refine lv_aload_n hx hb dX4_findNext_22 rfl (lv_at hl 1 rfl) ?_
      obtain ⟨v15, k16, h⟩ := it_b h
      refine kV_z (As := []) (rest := []) (q := b) hx_E hw (c_X0_fits l K 30 ad hI b hB  σ7 k16) mi_X0_fits mv_X0_fits ml_X4_35 (isB_lt hB) (cC_B hB _ _) rfl rfl ⟨⟨Nat.le_of_ble_eq_true rfl, Nat.le_of_ble_eq_true rfl⟩, rfl, rfl⟩ ⟨Nat.zero_le _, Nat.zero_le _⟩ hl.1 rfl (Nat.le_of_ble_eq_true rfl) dX4_findNext_23 (fun z17 H locs hw => ?_)
      refine lv_if_eq (tgt := 36) hx hb dX4_findNext_26 (by decide) (fun c18 => ?_) (fun c18 => ?_)
      · replace h := it_t c18 h
        refine lv_iconst (v := 0) hx hb dX4_findNext_36 (by decide) ?_
        exact hE hw (congrArg Prod.fst (Option.some.inj h)) (congrArg Prod.snd (Option.some.inj h)) (Or.inl rfl) dX4_findNext_37
      · replace h := it_f c18 h
        refine lv_aload_n hx hb dX4_findNext_29 rfl (lv_at hl 1 rfl) ?_
        refine gC_B_9 hx_E hw hB fl_X4_38 dX4_findNext_30 ?_
        refine lv_if_eq (tgt := 38) hx hb dX4_findNext_33 (by decide) (fun c19 => ?_) (fun c19 => ?_)
        · replace h := it_t c19 h
          refine lv_bipush (v := 6) hx hb dX4_findNext_38 (by decide) ?_
          refine lv_istore_n (lv' := [(3, .int (6 : Int32)), (0, .ref (ad 10)), (1, .ref (ad b)), (2, .int l2)]) hx hb dX4_findNext_40 rfl hl (by decide) rfl (fun ls hl => ?_)
          obtain ⟨φ25, h9, h_φ25⟩ := it_b h
          have hJ24 : ∀ (σ22 : vSt), .inr σ22 = φ25 → ∀ (H : Heap) (locs : List Loc) (ls : Array Slot), PW K 30 ad (cC K ad) A s.heap σ22 H locs → lv_has ls 6 [] → W p l e (rmF 5 96) s m args below meth c H locs 0 0 Q (F0 m 150 ls []) := by
            intro σ22 e9 H locs ls hw hl
            subst e9
            replace h := h_φ25
            refine lv_iconst (v := 0) hx hb dX4_findNext_150 (by decide) ?_
            exact hE hw (congrArg Prod.fst (Option.some.inj h)) (congrArg Prod.snd (Option.some.inj h)) (Or.inl rfl) dX4_findNext_151
          have hL23 : ∀ (n9 : Nat) (v20 : Int32) (σ21 : vSt), ∀ (H : Heap) (locs : List Loc) (ls : Array Slot), f_X4_findNext_41 b l2 n9 v20 σ21 = some φ25 → PW K 30 ad (cC K ad) A s.heap σ21 H locs → lv_has ls 6 [(0, .ref (ad 10)), (1, .ref (ad b)), (2, .int l2), (3, .int v20)] → W p l e (rmF 5 96) s m args below meth c H locs 0 0 Q (F0 m 41 ls []) := by
            intro n9
            induction n9 with
            | zero => intro v20 σ21 H locs ls h hw hl; rw [f_X4_findNext_41.eq_1] at h; exact it_n h
            | succ n9 ih =>
              intro v20 σ21 H locs ls h hw hl
              rw [f_X4_findNext_41.eq_2] at h
              refine lv_iload_n hx hb dX4_findNext_41 rfl (lv_at hl 3 rfl) ?_
              refine lv_iload_n hx hb dX4_findNext_42 rfl (lv_at hl 2 rfl) ?_
              refine lv_icmp_gt (tgt := 150) hx hb dX4_findNext_43 (by decide) (fun c26 => ?_) (fun c26 => ?_)
              · replace h := it_t c26 h
                have e9 := Option.some.inj h
                subst e9
                exact hJ24 _ rfl  H locs ls hw (lv_sub hl [] rfl)
              · replace h := it_f c26 h
                refine lv_iload_n hx hb dX4_findNext_46 rfl (lv_at hl 3 rfl) ?_
                refine lv_bipush (v := 7) hx hb dX4_findNext_47 (by decide) ?_
                refine lv_icmp_gt (tgt := 150) hx hb dX4_findNext_49 (by decide) (fun c27 => ?_) (fun c27 => ?_)
                · replace h := it_t c27 h
                  have e9 := Option.some.inj h
                  subst e9
                  exact hJ24 _ rfl  H locs ls hw (lv_sub hl [] rfl)
                · replace h := it_f c27 h
                  refine lv_iload_n hx hb dX4_findNext_52 rfl (lv_at hl 3 rfl) ?_
                  refine lv_bipush (v := 6) hx hb dX4_findNext_53 (by decide) ?_
                  obtain ⟨φ31, h9, h_φ31⟩ := it_b h
                  have hJ30 : ∀ (v29 : Int32), v29 = φ31 → ∀ (H : Heap) (locs : List Loc) (ls : Array Slot), PW K 30 ad (cC K ad) A s.heap σ21 H locs → lv_has ls 6 [(0, .ref (ad 10)), (1, .ref (ad b)), (2, .int l2), (3, .int v20)] → W p l e (rmF 5 96) s m args below meth c H locs 0 0 Q (F0 m 63 ls [.int v29]) := by
                    intro v29 e9 H locs ls hw hl
                    subst e9
                    replace h := h_φ31
                    refine lv_istore (lv' := [(4, .int v29), (0, .ref (ad 10)), (1, .ref (ad b)), (2, .int l2), (3, .int v20)]) hx hb dX4_findNext_63 hl (by decide) rfl (fun ls hl => ?_)
                    refine lv_iconst (v := 0) hx hb dX4_findNext_65 (by decide) ?_
                    refine lv_istore (lv' := [(5, .int (0 : Int32)), (4, .int v29), (0, .ref (ad 10)), (1, .ref (ad b)), (2, .int l2), (3, .int v20)]) hx hb dX4_findNext_66 hl (by decide) rfl (fun ls hl => ?_)
                    obtain ⟨φ38, h9, h_φ38⟩ := it_b h
                    have hJ37 : ∀ (σ34 : vSt), .inr σ34 = φ38 → ∀ (H : Heap) (locs : List Loc) (ls : Array Slot), PW K 30 ad (cC K ad) A s.heap σ34 H locs → lv_has ls 6 [(0, .ref (ad 10)), (1, .ref (ad b)), (2, .int l2), (3, .int v20)] → W p l e (rmF 5 96) s m args below meth c H locs 0 0 Q (F0 m 144 ls []) := by
                      intro σ34 e9 H locs ls hw hl
                      subst e9
                      replace h := h_φ38
                      refine lv_iinc (v := (v20 + 1)) (lv' := [(3, .int (v20 + 1)), (0, .ref (ad 10)), (1, .ref (ad b)), (2, .int l2)]) hx hb dX4_findNext_144 hl (k := 3) rfl rfl (by decide) rfl (fun ls hl => ?_)
                      refine lv_goto (tgt := 41) hx hb dX4_findNext_147 (by decide) ?_
                      exact ih _ _   H locs ls h hw (lv_sub hl [1, 2, 3, 0] rfl)
                    have hL36 : ∀ (n9 : Nat) (v32 : Int32) (σ33 : vSt), ∀ (H : Heap) (locs : List Loc) (ls : Array Slot), f_X4_findNext_68x35 b v29 v20 n9 v32 σ33 = some φ38 → PW K 30 ad (cC K ad) A s.heap σ33 H locs → lv_has ls 6 [(0, .ref (ad 10)), (1, .ref (ad b)), (2, .int l2), (3, .int v20), (4, .int v29), (5, .int v32)] → W p l e (rmF 5 96) s m args below meth c H locs 0 0 Q (F0 m 68 ls []) := by
                      intro n9
                      induction n9 with
                      | zero => intro v32 σ33 H locs ls h hw hl; rw [f_X4_findNext_68x35.eq_1] at h; exact it_n h
                      | succ n9 ih =>
                        intro v32 σ33 H locs ls h hw hl
                        rw [f_X4_findNext_68x35.eq_2] at h
                        refine lv_iload hx hb dX4_findNext_68 (lv_at hl 5 rfl) ?_
                        refine lv_aload_n hx hb dX4_findNext_70 rfl (lv_at hl 0 rfl) ?_
                        refine gC_10_0 hx_E hw fl_X4_9 dX4_findNext_71 ?_
                        refine gC_0_9 hx_E hw (by decide) fl_X4_42 dX4_findNext_74 ?_
                        refine lv_icmp_ge (tgt := 144) hx hb dX4_findNext_77 (by decide) (fun c39 => ?_) (fun c39 => ?_)
                        · replace h := it_t c39 h
                          have e9 := Option.some.inj h
                          subst e9
                          exact hJ37 _ rfl  H locs ls hw (lv_sub hl [0, 1, 2, 3] rfl)
                        · replace h := it_f c39 h
                          refine lv_aload_n hx hb dX4_findNext_80 rfl (lv_at hl 1 rfl) ?_
                          refine lv_iload hx hb dX4_findNext_81 (lv_at hl 5 rfl) ?_
                          obtain ⟨v40, k41, h⟩ := it_b h
                          refine kV_i (As := [.int v32]) (rest := []) (q := b) hx_E hw (c_X0_markOf l K 30 ad hI b hB v32 σ33 k41) mi_X0_markOf mv_X0_markOf ml_X4_48 (isB_lt hB) (cC_B hB _ _) rfl rfl ⟨⟨Nat.le_of_ble_eq_true rfl, Nat.le_of_ble_eq_true rfl⟩, rfl, rfl⟩ ⟨Nat.zero_le _, Nat.zero_le _⟩ hl.1 rfl (Nat.le_of_ble_eq_true rfl) dX4_findNext_83 (fun H locs hw => ?_)
                          refine lv_if_eq (tgt := 92) hx hb dX4_findNext_86 (by decide) (fun c42 => ?_) (fun c42 => ?_)
                          · replace h := it_t c42 h
                            refine lv_aload_n hx hb dX4_findNext_92 rfl (lv_at hl 0 rfl) ?_
                            refine gC_10_1 hx_E hw fl_X4_20 dX4_findNext_93 ?_
                            refine lv_aload_n hx hb dX4_findNext_96 rfl (lv_at hl 1 rfl) ?_
                            obtain ⟨σ43, k44, h⟩ := it_b h
                            refine kV_v (As := [.ref (ad b)]) (rest := []) (q := 11) hx_E hw (c_X0_copyFrom l K 30 ad hI 11 isB_11 b hB  σ33 k44) mi_X0_copyFrom mv_X0_copyFrom ml_X4_52 (by decide) rfl rfl rfl ⟨⟨Nat.le_of_ble_eq_true rfl, Nat.le_of_ble_eq_true rfl⟩, rfl, rfl⟩ ⟨Nat.zero_le _, Nat.zero_le _⟩ hl.1 rfl (Nat.le_of_ble_eq_true rfl) dX4_findNext_97 (fun H locs hw => ?_)
                            refine lv_aload_n hx hb dX4_findNext_100 rfl (lv_at hl 0 rfl) ?_
                            refine gC_10_1 hx_E hw fl_X4_20 dX4_findNext_101 ?_
                            refine lv_iload hx hb dX4_findNext_104 (lv_at hl 5 rfl) ?_
                            refine lv_iload hx hb dX4_findNext_106 (lv_at hl 4 rfl) ?_
                            obtain ⟨σ45, k46, h⟩ := it_b h
                            refine kV_v (As := [.int v32, .int v29]) (rest := []) (q := 11) hx_E hw (c_X0_settleEdge l K 30 ad hI 11 isB_11 v32 v29 σ43 k46) mi_X0_settleEdge mv_X0_settleEdge ml_X4_56 (by decide) rfl rfl rfl ⟨⟨Nat.le_of_ble_eq_true rfl, Nat.le_of_ble_eq_true rfl⟩, rfl, rfl⟩ ⟨Nat.zero_le _, Nat.zero_le _⟩ hl.1 rfl (Nat.le_of_ble_eq_true rfl) dX4_findNext_108 (fun H locs hw => ?_)
                            refine lv_aload_n hx hb dX4_findNext_111 rfl (lv_at hl 0 rfl) ?_
                            refine gC_10_1 hx_E hw fl_X4_20 dX4_findNext_112 ?_
                            obtain ⟨σ47, k48, h⟩ := it_b h
                            refine kV_v (As := []) (rest := []) (q := 11) hx_E hw (c_X0_settle l K 30 ad hI 11 isB_11  σ45 k48) mi_X0_settle mv_X0_settle ml_X4_60 (by decide) rfl rfl rfl ⟨⟨Nat.le_of_ble_eq_true rfl, Nat.le_of_ble_eq_true rfl⟩, rfl, rfl⟩ ⟨Nat.zero_le _, Nat.zero_le _⟩ hl.1 rfl (Nat.le_of_ble_eq_true rfl) dX4_findNext_115 (fun H locs hw => ?_)
                            refine lv_aload_n hx hb dX4_findNext_118 rfl (lv_at hl 0 rfl) ?_
                            refine gC_10_1 hx_E hw fl_X4_20 dX4_findNext_119 ?_
                            obtain ⟨v49, k50, h⟩ := it_b h
                            refine kV_z (As := []) (rest := []) (q := 11) hx_E hw (c_X0_fits l K 30 ad hI 11 isB_11  σ47 k50) mi_X0_fits mv_X0_fits ml_X4_35 (by decide) rfl rfl rfl ⟨⟨Nat.le_of_ble_eq_true rfl, Nat.le_of_ble_eq_true rfl⟩, rfl, rfl⟩ ⟨Nat.zero_le _, Nat.zero_le _⟩ hl.1 rfl (Nat.le_of_ble_eq_true rfl) dX4_findNext_122 (fun z51 H locs hw => ?_)
                            refine lv_if_ne (tgt := 138) hx hb dX4_findNext_125 (by decide) (fun c52 => ?_) (fun c52 => ?_)
                            · replace h := it_f c52 h
                              refine lv_iinc (v := (v32 + 1)) (lv' := [(5, .int (v32 + 1)), (0, .ref (ad 10)), (1, .ref (ad b)), (2, .int l2), (3, .int v20), (4, .int v29)]) hx hb dX4_findNext_138 hl (k := 5) rfl rfl (by decide) rfl (fun ls hl => ?_)
                              refine lv_goto (tgt := 68) hx hb dX4_findNext_141 (by decide) ?_
                              exact ih _ _   H locs ls h hw (lv_sub hl [1, 2, 3, 4, 5, 0] rfl)
                            · replace h := it_t c52 h
                              refine lv_aload_n hx hb dX4_findNext_128 rfl (lv_at hl 1 rfl) ?_
                              refine lv_iload_n hx hb dX4_findNext_129 rfl (lv_at hl 3 rfl) ?_
                              refine lv_iload hx hb dX4_findNext_130 (lv_at hl 5 rfl) ?_
                              refine lv_iconst (v := -1) hx hb dX4_findNext_132 (by decide) ?_
                              obtain ⟨σ53, k54, h⟩ := it_b h
                              refine kV_v (As := [.int v20, .int v32, .int (-1 : Int32)]) (rest := []) (q := b) hx_E hw (c_X0_found l K 30 ad hI b hB v20 v32 (-1 : Int32) σ47 k54) mi_X0_found mv_X0_found ml_X4_63 (isB_lt hB) (cC_B hB _ _) rfl rfl ⟨⟨Nat.le_of_ble_eq_true rfl, Nat.le_of_ble_eq_true rfl⟩, rfl, rfl⟩ ⟨Nat.zero_le _, Nat.zero_le _⟩ hl.1 rfl (Nat.le_of_ble_eq_true rfl) dX4_findNext_133 (fun H locs hw => ?_)
                              refine lv_iconst (v := 1) hx hb dX4_findNext_136 (by decide) ?_
                              have e9 := Option.some.inj h
                              subst e9
                              replace h := h_φ38
                              have e9 := Option.some.inj h
                              subst e9
                              replace h := h_φ25
                              exact hE hw (congrArg Prod.fst (Option.some.inj h)) (congrArg Prod.snd (Option.some.inj h)) (Or.inr rfl) dX4_findNext_137
                          · replace h := it_f c42 h
                            refine lv_goto (tgt := 138) hx hb dX4_findNext_89 (by decide) ?_
                            refine lv_iinc (v := (v32 + 1)) (lv' := [(5, .int (v32 + 1)), (0, .ref (ad 10)), (1, .ref (ad b)), (2, .int l2), (3, .int v20), (4, .int v29)]) hx hb dX4_findNext_138 hl (k := 5) rfl rfl (by decide) rfl (fun ls hl => ?_)
                            refine lv_goto (tgt := 68) hx hb dX4_findNext_141 (by decide) ?_
                            exact ih _ _   H locs ls h hw (lv_sub hl [1, 2, 3, 4, 5, 0] rfl)
                    exact hL36 600 _ _   H locs ls h9 hw (lv_sub hl [2, 3, 4, 5, 1, 0] rfl)
                  replace h := h9
                  refine lv_icmp_ne (tgt := 62) hx hb dX4_findNext_55 (by decide) (fun c28 => ?_) (fun c28 => ?_)
                  · replace h := it_f c28 h
                    refine lv_iconst (v := 2) hx hb dX4_findNext_62 (by decide) ?_
                    have e9 := Option.some.inj h
                    subst e9
                    exact hJ30 _ rfl  H locs ls hw (lv_sub hl [0, 1, 2, 3] rfl)
                  · replace h := it_t c28 h
                    refine lv_iconst (v := 1) hx hb dX4_findNext_58 (by decide) ?_
                    refine lv_goto (tgt := 63) hx hb dX4_findNext_59 (by decide) ?_
                    have e9 := Option.some.inj h
                    subst e9
                    exact hJ30 _ rfl  H locs ls hw (lv_sub hl [0, 1, 2, 3] rfl)
          exact hL23 600 _ _   H locs ls h9 hw (lv_sub hl [1, 2, 3, 0] rfl)
        · replace h := it_f c19 h
          refine lv_iconst (v := 0) hx hb dX4_findNext_36 (by decide) ?_
          exact hE hw (congrArg Prod.fst (Option.some.inj h)) (congrArg Prod.snd (Option.some.inj h)) (Or.inl rfl) dX4_findNext_37
    replace h := h9
    refine lv_icmp_lt (tgt := 22) hx hb dX4_findNext_10 (by decide) (fun c6 => ?_) (fun c6 => ?_)
    · replace h := it_t c6 h
      have e9 := Option.some.inj h
      subst e9
      exact hJ8 _ rfl  H locs ls hw (lv_sub hl [0, 1, 2] rfl)
    · replace h := it_f c6 h
      refine lv_aload_n hx hb dX4_findNext_13 rfl (lv_at hl 1 rfl) ?_
      obtain ⟨⟨v10, σ11⟩, k12, h⟩ := it_b h
      refine kV_z (As := []) (rest := []) (q := b) hx_E hw (c_X0_findClosing l K 30 ad hI b hB  σ2 k12) mi_X0_findClosing mv_X0_findClosing ml_X4_31 (isB_lt hB) (cC_B hB _ _) rfl rfl ⟨⟨Nat.le_of_ble_eq_true rfl, Nat.le_of_ble_eq_true rfl⟩, rfl, rfl⟩ ⟨Nat.zero_le _, Nat.zero_le _⟩ hl.1 rfl (Nat.le_of_ble_eq_true rfl) dX4_findNext_14 (fun z13 H locs hw => ?_)
      refine lv_if_eq (tgt := 22) hx hb dX4_findNext_17 (by decide) (fun c14 => ?_) (fun c14 => ?_)
      · replace h := it_t c14 h
        have e9 := Option.some.inj h
        subst e9
        exact hJ8 _ rfl  H locs ls hw (lv_sub hl [0, 1, 2] rfl)
      · replace h := it_f c14 h
        refine lv_iconst (v := 1) hx hb dX4_findNext_20 (by decide) ?_
        have e9 := Option.some.inj h
        subst e9
        replace h := h_φ9
        exact hE hw (congrArg Prod.fst (Option.some.inj h)) (congrArg Prod.snd (Option.some.inj h)) (Or.inr rfl) dX4_findNext_21
set_option maxHeartbeats 4000000 in
set_option maxRecDepth 100000 in
theorem c_X0_makeFound (l : Launch) (K : vK) (N : Nat) (ad : Nat → Nat) (hI : adInj N ad) (b : Nat) (hB : isB N b) (σ : vSt) {σ' : vSt} (h : f_X0_makeFound b σ = some σ') : MCv l yX0_makeFound (wsY yX0_makeFound cX0_makeFound 1 none) (rmF 4 70) K N ad (cC K ad) [.ref (ad b)] σ σ' := by
  refine MCv_of (own := RX0) (plainFor_of_name (by decide)) hI rfl (Nat.le_of_ble_eq_true rfl) ?_
  intro p e s m args below meth c A Q hx_E hE H locs ls hw hl
  have hx := hx_E.1; have hb := hx_E.2.1; have hown := hx_E.2.2.2.1; have hts := hx_E.2.2.2.2.1
  replace hl : lv_has ls 1 [(0, .ref (ad b))] := hl
  have hN := isB_n6 hB
  unfold f_X0_makeFound at h
  refine lv_aload_n hx hb dX0_makeFound_0 rfl (lv_at hl 0 rfl) ?_
  refine lv_aload_n hx hb dX0_makeFound_1 rfl (lv_at hl 0 rfl) ?_
  refine gC_B_11 hx_E hw hB fl_X0_19 dX0_makeFound_2 ?_
  refine lv_aload_n hx hb dX0_makeFound_5 rfl (lv_at hl 0 rfl) ?_
  refine gC_B_10 hx_E hw hB fl_X0_15 dX0_makeFound_6 ?_
  obtain ⟨v1, k2, h⟩ := it_b h
  refine kN_i (As := [.int (gI σ b 10)]) (rest := [.int (gI σ b 11), .ref (ad b)]) hx_E hw (c_X6_becomes l K (gI σ b 10) k2) mi_X6_becomes sm_X6_becomes (hx_E.2.2.2.2.2.2.2.2.2.2.1) rfl ⟨⟨Nat.le_of_ble_eq_true rfl, Nat.le_of_ble_eq_true rfl⟩, rfl, rfl⟩ ⟨Nat.zero_le _, Nat.zero_le _⟩ hl.1 rfl (Nat.le_of_ble_eq_true rfl) dX0_makeFound_9 (fun H locs hw => ?_)
  obtain ⟨σ3, k4, h⟩ := it_b h
  refine kV_v (As := [.int (gI σ b 11), .int v1]) (rest := []) (q := b) hx_E hw (c_X0_settleEdge l K N ad hI b hB (gI σ b 11) v1 σ k4) mi_X0_settleEdge mv_X0_settleEdge ml_X0_148 (isB_lt hB) (cC_B hB _ _) rfl rfl ⟨⟨Nat.le_of_ble_eq_true rfl, Nat.le_of_ble_eq_true rfl⟩, rfl, rfl⟩ ⟨Nat.zero_le _, Nat.zero_le _⟩ hl.1 rfl (Nat.le_of_ble_eq_true rfl) dX0_makeFound_12 (fun H locs hw => ?_)
  exact hE hw (Option.some.inj h) dX0_makeFound_15
set_option maxHeartbeats 4000000 in
set_option maxRecDepth 100000 in
theorem c_X6_makeFound (l : Launch) (K : vK) (ad : Nat → Nat) (hI : adInj 30 ad) (σ : vSt) {σ' : vSt} (h : f_X6_makeFound σ = some σ') : MCv l yX6_makeFound (wsY yX6_makeFound cX6_makeFound 2 none) (rmF 5 90) K 30 ad (cC K ad) [.ref (ad 8)] σ σ' := by
  refine MCv_of (own := RX6) (plainFor_of_name (by decide)) hI rfl (Nat.le_of_ble_eq_true rfl) ?_
  intro p e s m args below meth c A Q hx_E hE H locs ls hw hl
  have hx := hx_E.1; have hb := hx_E.2.1; have hown := hx_E.2.2.2.1; have hts := hx_E.2.2.2.2.1
  replace hl : lv_has ls 2 [(0, .ref (ad 8))] := hl
  unfold f_X6_makeFound at h
  refine lv_aload_n hx hb dX6_makeFound_0 rfl (lv_at hl 0 rfl) ?_
  refine gC_8_1 hx_E hw fl_X6_33 dX6_makeFound_1 ?_
  refine gC_B_10 hx_E hw isB_6 fl_X6_140 dX6_makeFound_4 ?_
  obtain ⟨v1, e_v1, h⟩ := it_b h
  refine lt_topi (Option.some.inj e_v1) ?_
  refine lv_istore_n (lv' := [(1, .int v1), (0, .ref (ad 8))]) hx hb dX6_makeFound_7 rfl hl (by decide) rfl (fun ls hl => ?_)
  refine lv_iload_n hx hb dX6_makeFound_8 rfl (lv_at hl 0 rfl) ?_
  obtain ⟨φ5, h9, h_φ5⟩ := it_b h
  have hJ4 : ∀ (σ3 : vSt), σ3 = φ5 → ∀ (H : Heap) (locs : List Loc) (ls : Array Slot), PW K 30 ad (cC K ad) A s.heap σ3 H locs → lv_has ls 2 [(0, .ref (ad 8))] → W p l e (rmF 5 90) s m args below meth c H locs 0 0 Q (F0 m 28 ls []) := by
    intro σ3 e9 H locs ls hw hl
    subst e9
    replace h := h_φ5
    refine lv_aload_n hx hb dX6_makeFound_28 rfl (lv_at hl 0 rfl) ?_
    refine gC_8_1 hx_E hw fl_X6_33 dX6_makeFound_29 ?_
    obtain ⟨σ9, k10, h⟩ := it_b h
    refine kV_v (As := []) (rest := []) (q := 6) hx_E hw (c_X0_makeFound l K 30 ad hI 6 isB_6  σ3 k10) mi_X0_makeFound mv_X0_makeFound ml_X6_236 (by decide) rfl rfl rfl ⟨⟨Nat.le_of_ble_eq_true rfl, Nat.le_of_ble_eq_true rfl⟩, rfl, rfl⟩ ⟨Nat.zero_le _, Nat.zero_le _⟩ hl.1 rfl (Nat.le_of_ble_eq_true rfl) dX6_makeFound_32 (fun H locs hw => ?_)
    exact hE hw (Option.some.inj h) dX6_makeFound_35
  replace h := h9
  refine lv_if_lt (tgt := 28) hx hb dX6_makeFound_9 (by decide) (fun c2 => ?_) (fun c2 => ?_)
  · replace h := it_t c2 h
    have e9 := Option.some.inj h
    subst e9
    exact hJ4 _ rfl  H locs ls hw (lv_sub hl [1] rfl)
  · replace h := it_f c2 h
    refine lv_iload_n hx hb dX6_makeFound_12 rfl (lv_at hl 0 rfl) ?_
    refine lv_bipush (v := 8) hx hb dX6_makeFound_13 (by decide) ?_
    refine lv_icmp_ge (tgt := 28) hx hb dX6_makeFound_15 (by decide) (fun c6 => ?_) (fun c6 => ?_)
    · replace h := it_t c6 h
      have e9 := Option.some.inj h
      subst e9
      exact hJ4 _ rfl  H locs ls hw (lv_sub hl [1] rfl)
    · replace h := it_f c6 h
      refine lv_aload_n hx hb dX6_makeFound_18 rfl (lv_at hl 1 rfl) ?_
      refine gC_8_6 hx_E hw fl_X6_65 dX6_makeFound_19 ?_
      refine lv_iload_n hx hb dX6_makeFound_22 rfl (lv_at hl 0 rfl) ?_
      refine lv_dup2_11 hx hb dX6_makeFound_23 rfl rfl ?_
      obtain ⟨g7, h⟩ := it_g h
      refine aC_9 hx_E hw g7 dX6_makeFound_24 ?_
      refine lv_iconst (v := 1) hx hb dX6_makeFound_25 (by decide) ?_
      refine lv_iadd hx hb dX6_makeFound_26 ?_
      obtain ⟨g8, h⟩ := it_g h
      refine sC_9 hx_E hw g8 dX6_makeFound_27 (fun H locs hw => ?_)
      have e9 := Option.some.inj h
      subst e9
      exact hJ4 _ rfl  H locs ls hw (lv_sub hl [1] rfl)
set_option maxHeartbeats 4000000 in
set_option maxRecDepth 100000 in
theorem c_X6_deduceAll (l : Launch) (K : vK) (ad : Nat → Nat) (hI : adInj 30 ad) (l1 : Int32) (σ : vSt) {r : Int32} {σ' : vSt} (h : f_X6_deduceAll l1 σ = some (r, σ')) : MCi l yX6_deduceAll (wsY yX6_deduceAll cX6_deduceAll 3 (some .int)) (rmF 6 121) K 30 ad (cC K ad) [.ref (ad 8), .int l1] σ r σ' := by
  refine MCi_of (own := RX6) (plainFor_of_name (by decide)) hI rfl (Nat.le_of_ble_eq_true rfl) ?_
  intro p e s m args below meth c A Q hx_E hE H locs ls hw hl
  have hx := hx_E.1; have hb := hx_E.2.1; have hown := hx_E.2.2.2.1; have hts := hx_E.2.2.2.2.1
  replace hl : lv_has ls 3 [(0, .ref (ad 8)), (1, .int l1)] := hl
  unfold f_X6_deduceAll at h
  refine lv_iload_n hx hb dX6_deduceAll_0 rfl (lv_at hl 1 rfl) ?_
  refine lv_if_lt (tgt := 10) hx hb dX6_deduceAll_1 (by decide) (fun c1 => ?_) (fun c1 => ?_)
  · replace h := it_t c1 h
    refine lv_bipush (v := -2) hx hb dX6_deduceAll_10 (by decide) ?_
    exact hE hw (congrArg Prod.fst (Option.some.inj h)) (congrArg Prod.snd (Option.some.inj h)) dX6_deduceAll_12
  · replace h := it_f c1 h
    refine lv_iload_n hx hb dX6_deduceAll_4 rfl (lv_at hl 1 rfl) ?_
    refine lv_bipush (v := 7) hx hb dX6_deduceAll_5 (by decide) ?_
    refine lv_icmp_le (tgt := 13) hx hb dX6_deduceAll_7 (by decide) (fun c2 => ?_) (fun c2 => ?_)
    · replace h := it_t c2 h
      refine lv_aload_n hx hb dX6_deduceAll_13 rfl (lv_at hl 0 rfl) ?_
      refine gC_8_1 hx_E hw fl_X6_33 dX6_deduceAll_14 ?_
      obtain ⟨v3, k4, h⟩ := it_b h
      refine kV_z (As := []) (rest := []) (q := 6) hx_E hw (c_X0_fits l K 30 ad hI 6 isB_6  σ k4) mi_X0_fits mv_X0_fits ml_X6_129 (by decide) rfl rfl rfl ⟨⟨Nat.le_of_ble_eq_true rfl, Nat.le_of_ble_eq_true rfl⟩, rfl, rfl⟩ ⟨Nat.zero_le _, Nat.zero_le _⟩ hl.1 rfl (Nat.le_of_ble_eq_true rfl) dX6_deduceAll_17 (fun z5 H locs hw => ?_)
      refine lv_if_ne (tgt := 26) hx hb dX6_deduceAll_20 (by decide) (fun c6 => ?_) (fun c6 => ?_)
      · replace h := it_f c6 h
        refine lv_aload_n hx hb dX6_deduceAll_26 rfl (lv_at hl 0 rfl) ?_
        refine gC_8_4 hx_E hw fl_X6_54 dX6_deduceAll_27 ?_
        refine lv_aload_n hx hb dX6_deduceAll_30 rfl (lv_at hl 0 rfl) ?_
        refine gC_8_0 hx_E hw fl_X6_27 dX6_deduceAll_31 ?_
        refine lv_aload_n hx hb dX6_deduceAll_34 rfl (lv_at hl 0 rfl) ?_
        refine gC_8_1 hx_E hw fl_X6_33 dX6_deduceAll_35 ?_
        refine lv_aload_n hx hb dX6_deduceAll_38 rfl (lv_at hl 0 rfl) ?_
        refine gC_8_6 hx_E hw fl_X6_65 dX6_deduceAll_39 ?_
        obtain ⟨σ7, k8, h⟩ := it_b h
        refine kV_v (As := [.ref (ad 0), .ref (ad 6), .ref (ad 9)]) (rest := []) (q := 20) hx_E hw (c_X2_keep l K ad hI   σ k8) mi_X2_keep mv_X2_keep ml_X6_81 (by decide) rfl rfl rfl ⟨⟨Nat.le_of_ble_eq_true rfl, Nat.le_of_ble_eq_true rfl⟩, rfl, rfl⟩ ⟨Nat.zero_le _, Nat.zero_le _⟩ hl.1 rfl (Nat.le_of_ble_eq_true rfl) dX6_deduceAll_42 (fun H locs hw => ?_)
        refine lv_iconst (v := 0) hx hb dX6_deduceAll_45 (by decide) ?_
        refine lv_istore_n (lv' := [(2, .int (0 : Int32)), (0, .ref (ad 8)), (1, .int l1)]) hx hb dX6_deduceAll_46 rfl hl (by decide) rfl (fun ls hl => ?_)
        obtain ⟨φ15, h9, h_φ15⟩ := it_b h
        have hJ14 : ∀ (v11 : Int32) (σ12 : vSt), (v11, σ12) = φ15 → ∀ (H : Heap) (locs : List Loc) (ls : Array Slot), PW K 30 ad (cC K ad) A s.heap σ12 H locs → lv_has ls 3 [(2, .int v11)] → W p l e (rmF 6 121) s m args below meth c H locs 0 0 Q (F0 m 78 ls []) := by
          intro v11 σ12 e9 H locs ls hw hl
          subst e9
          replace h := h_φ15
          refine lv_iload_n hx hb dX6_deduceAll_78 rfl (lv_at hl 0 rfl) ?_
          exact hE hw (congrArg Prod.fst (Option.some.inj h)) (congrArg Prod.snd (Option.some.inj h)) dX6_deduceAll_79
        have hL13 : ∀ (n9 : Nat) (v9 : Int32) (σ10 : vSt), ∀ (H : Heap) (locs : List Loc) (ls : Array Slot), f_X6_deduceAll_47 l1 n9 v9 σ10 = some φ15 → PW K 30 ad (cC K ad) A s.heap σ10 H locs → lv_has ls 3 [(0, .ref (ad 8)), (1, .int l1), (2, .int v9)] → W p l e (rmF 6 121) s m args below meth c H locs 0 0 Q (F0 m 47 ls []) := by
          intro n9
          induction n9 with
          | zero => intro v9 σ10 H locs ls h hw hl; rw [f_X6_deduceAll_47.eq_1] at h; exact it_n h
          | succ n9 ih =>
            intro v9 σ10 H locs ls h hw hl
            rw [f_X6_deduceAll_47.eq_2] at h
            refine lv_iload_n hx hb dX6_deduceAll_47 rfl (lv_at hl 2 rfl) ?_
            refine lv_bipush (v := 40) hx hb dX6_deduceAll_48 (by decide) ?_
            refine lv_icmp_ge (tgt := 78) hx hb dX6_deduceAll_50 (by decide) (fun c16 => ?_) (fun c16 => ?_)
            · replace h := it_t c16 h
              have e9 := Option.some.inj h
              subst e9
              exact hJ14 _ _ rfl  H locs ls hw (lv_sub hl [2] rfl)
            · replace h := it_f c16 h
              refine lv_aload_n hx hb dX6_deduceAll_53 rfl (lv_at hl 0 rfl) ?_
              refine gC_8_2 hx_E hw fl_X6_40 dX6_deduceAll_54 ?_
              refine lv_aload_n hx hb dX6_deduceAll_57 rfl (lv_at hl 0 rfl) ?_
              refine gC_8_1 hx_E hw fl_X6_33 dX6_deduceAll_58 ?_
              refine lv_iload_n hx hb dX6_deduceAll_61 rfl (lv_at hl 1 rfl) ?_
              obtain ⟨⟨v17, σ18⟩, k19, h⟩ := it_b h
              refine kV_z (As := [.ref (ad 6), .int l1]) (rest := []) (q := 10) hx_E hw (c_X4_findNext l K ad hI 6 isB_6 l1 σ10 k19) mi_X4_findNext mv_X4_findNext ml_X6_133 (by decide) rfl rfl rfl ⟨⟨Nat.le_of_ble_eq_true rfl, Nat.le_of_ble_eq_true rfl⟩, rfl, rfl⟩ ⟨Nat.zero_le _, Nat.zero_le _⟩ hl.1 rfl (Nat.le_of_ble_eq_true rfl) dX6_deduceAll_62 (fun z20 H locs hw => ?_)
              refine lv_if_eq (tgt := 78) hx hb dX6_deduceAll_65 (by decide) (fun c21 => ?_) (fun c21 => ?_)
              · replace h := it_t c21 h
                have e9 := Option.some.inj h
                subst e9
                exact hJ14 _ _ rfl  H locs ls hw (lv_sub hl [2] rfl)
              · replace h := it_f c21 h
                refine lv_aload_n hx hb dX6_deduceAll_68 rfl (lv_at hl 0 rfl) ?_
                obtain ⟨σ22, k23, h⟩ := it_b h
                refine kV_v (As := []) (rest := []) (q := 8) hx_E hw (c_X6_makeFound l K ad hI   σ18 k23) mi_X6_makeFound mv_X6_makeFound ml_X6_137 (by decide) rfl rfl rfl ⟨⟨Nat.le_of_ble_eq_true rfl, Nat.le_of_ble_eq_true rfl⟩, rfl, rfl⟩ ⟨Nat.zero_le _, Nat.zero_le _⟩ hl.1 rfl (Nat.le_of_ble_eq_true rfl) dX6_deduceAll_69 (fun H locs hw => ?_)
                refine lv_iinc (v := (v9 + 1)) (lv' := [(2, .int (v9 + 1)), (0, .ref (ad 8)), (1, .int l1)]) hx hb dX6_deduceAll_72 hl (k := 2) rfl rfl (by decide) rfl (fun ls hl => ?_)
                refine lv_goto (tgt := 47) hx hb dX6_deduceAll_75 (by decide) ?_
                exact ih _ _   H locs ls h hw (lv_sub hl [1, 2, 0] rfl)
        exact hL13 600 _ _   H locs ls h9 hw (lv_sub hl [1, 2, 0] rfl)
      · replace h := it_t c6 h
        refine lv_bipush (v := -3) hx hb dX6_deduceAll_23 (by decide) ?_
        exact hE hw (congrArg Prod.fst (Option.some.inj h)) (congrArg Prod.snd (Option.some.inj h)) dX6_deduceAll_25
    · replace h := it_f c2 h
      refine lv_bipush (v := -2) hx hb dX6_deduceAll_10 (by decide) ?_
      exact hE hw (congrArg Prod.fst (Option.some.inj h)) (congrArg Prod.snd (Option.some.inj h)) dX6_deduceAll_12
set_option maxHeartbeats 4000000 in
set_option maxRecDepth 100000 in
theorem c_X2_restore (l : Launch) (K : vK) (ad : Nat → Nat) (hI : adInj 30 ad) (σ : vSt) {σ' : vSt} (h : f_X2_restore σ = some σ') : MCv l yX2_restore (wsY yX2_restore cX2_restore 6 none) (rmF 5 97) K 30 ad (cC K ad) [.ref (ad 20), .ref (ad 0), .ref (ad 6), .ref (ad 9)] σ σ' := by
  refine MCv_of (own := RX2) (plainFor_of_name (by decide)) hI rfl (Nat.le_of_ble_eq_true rfl) ?_
  intro p e s m args below meth c A Q hx_E hE H locs ls hw hl
  have hx := hx_E.1; have hb := hx_E.2.1; have hown := hx_E.2.2.2.1; have hts := hx_E.2.2.2.2.1
  replace hl : lv_has ls 6 [(0, .ref (ad 20)), (1, .ref (ad 0)), (2, .ref (ad 6)), (3, .ref (ad 9))] := hl
  unfold f_X2_restore at h
  refine lv_aload_n hx hb dX2_restore_0 rfl (lv_at hl 0 rfl) ?_
  refine gC_20_7 hx_E hw fl_X2_31 dX2_restore_1 ?_
  refine lv_iconst (v := 1) hx hb dX2_restore_4 (by decide) ?_
  refine lv_isub hx hb dX2_restore_5 ?_
  refine lv_bipush (v := 8) hx hb dX2_restore_6 (by decide) ?_
  obtain ⟨v1, k2, h⟩ := it_b h
  refine kS_i (As := [.int ((gI σ 20 7) - (1 : Int32)), .int (8 : Int32)]) (rest := []) hx_E hw (c_J9_floorMod_7cf53 l K ((gI σ 20 7) - (1 : Int32)) (8 : Int32) k2) mi_J9_floorMod_7cf53 sm_J9_floorMod_7cf53 ml_X2_35 rfl ⟨⟨Nat.le_of_ble_eq_true rfl, Nat.le_of_ble_eq_true rfl⟩, rfl, rfl⟩ ⟨Nat.zero_le _, Nat.zero_le _⟩ hl.1 rfl (Nat.le_of_ble_eq_true rfl) dX2_restore_8 (fun H locs hw => ?_)
  refine lv_istore (lv' := [(4, .int v1), (0, .ref (ad 20)), (1, .ref (ad 0)), (2, .ref (ad 6)), (3, .ref (ad 9))]) hx hb dX2_restore_11 hl (by decide) rfl (fun ls hl => ?_)
  refine lv_aload_n hx hb dX2_restore_13 rfl (lv_at hl 2 rfl) ?_
  refine lv_aload_n hx hb dX2_restore_14 rfl (lv_at hl 1 rfl) ?_
  refine gC_20_0 hx_E hw fl_X2_9 dX2_restore_15 ?_
  refine lv_iload hx hb dX2_restore_18 (lv_at hl 0 rfl) ?_
  obtain ⟨g3, h⟩ := it_g h
  refine aC_21 hx_E hw g3 dX2_restore_20 ?_
  refine lv_aload_n hx hb dX2_restore_21 rfl (lv_at hl 1 rfl) ?_
  refine gC_20_1 hx_E hw fl_X2_15 dX2_restore_22 ?_
  refine lv_iload hx hb dX2_restore_25 (lv_at hl 0 rfl) ?_
  obtain ⟨g4, h⟩ := it_g h
  refine aC_22 hx_E hw g4 dX2_restore_27 ?_
  obtain ⟨σ5, k6, h⟩ := it_b h
  refine kV_v (As := [.int (gI σ 21 v1.toNatClampNeg), .int (gI σ 22 v1.toNatClampNeg)]) (rest := []) (q := 0) hx_E hw (c_X1_lay l K 30 (by decide) ad hI  (gI σ 21 v1.toNatClampNeg) (gI σ 22 v1.toNatClampNeg) σ k6) mi_X1_lay mv_X1_lay ml_X2_63 (by decide) rfl rfl rfl ⟨⟨Nat.le_of_ble_eq_true rfl, Nat.le_of_ble_eq_true rfl⟩, rfl, rfl⟩ ⟨Nat.zero_le _, Nat.zero_le _⟩ hl.1 rfl (Nat.le_of_ble_eq_true rfl) dX2_restore_28 (fun H locs hw => ?_)
  refine lv_iconst (v := 0) hx hb dX2_restore_31 (by decide) ?_
  refine lv_istore (lv' := [(5, .int (0 : Int32)), (4, .int v1), (0, .ref (ad 20)), (1, .ref (ad 0)), (2, .ref (ad 6)), (3, .ref (ad 9))]) hx hb dX2_restore_32 hl (by decide) rfl (fun ls hl => ?_)
  obtain ⟨φ12, h9, h_φ12⟩ := it_b h
  have hJ11 : ∀ (σ9 : vSt), σ9 = φ12 → ∀ (H : Heap) (locs : List Loc) (ls : Array Slot), PW K 30 ad (cC K ad) A s.heap σ9 H locs → lv_has ls 6 [(0, .ref (ad 20)), (2, .ref (ad 6)), (3, .ref (ad 9)), (4, .int v1)] → W p l e (rmF 5 97) s m args below meth c H locs 0 0 Q (F0 m 67 ls []) := by
    intro σ9 e9 H locs ls hw hl
    subst e9
    replace h := h_φ12
    refine lv_iconst (v := 0) hx hb dX2_restore_67 (by decide) ?_
    refine lv_istore (lv' := [(5, .int (0 : Int32)), (0, .ref (ad 20)), (2, .ref (ad 6)), (3, .ref (ad 9)), (4, .int v1)]) hx hb dX2_restore_68 hl (by decide) rfl (fun ls hl => ?_)
    obtain ⟨φ21, h9, h_φ21⟩ := it_b h
    have hJ20 : ∀ (σ18 : vSt), σ18 = φ21 → ∀ (H : Heap) (locs : List Loc) (ls : Array Slot), PW K 30 ad (cC K ad) A s.heap σ18 H locs → lv_has ls 6 [(0, .ref (ad 20)), (2, .ref (ad 6)), (4, .int v1)] → W p l e (rmF 5 97) s m args below meth c H locs 0 0 Q (F0 m 107 ls []) := by
      intro σ18 e9 H locs ls hw hl
      subst e9
      replace h := h_φ21
      refine lv_aload_n hx hb dX2_restore_107 rfl (lv_at hl 1 rfl) ?_
      refine lv_aload_n hx hb dX2_restore_108 rfl (lv_at hl 0 rfl) ?_
      refine gC_20_2 hx_E hw fl_X2_18 dX2_restore_109 ?_
      refine lv_iload hx hb dX2_restore_112 (lv_at hl 2 rfl) ?_
      obtain ⟨g26, h⟩ := it_g h
      refine aC_23 hx_E hw g26 dX2_restore_114 ?_
      refine lv_aload_n hx hb dX2_restore_115 rfl (lv_at hl 0 rfl) ?_
      refine gC_20_3 hx_E hw fl_X2_22 dX2_restore_116 ?_
      refine lv_iload hx hb dX2_restore_119 (lv_at hl 2 rfl) ?_
      obtain ⟨g27, h⟩ := it_g h
      refine aC_24 hx_E hw g27 dX2_restore_121 ?_
      obtain ⟨σ28, k29, h⟩ := it_b h
      refine kV_v (As := [.long (gL σ18 23 v1.toNatClampNeg), .long (gL σ18 24 v1.toNatClampNeg)]) (rest := []) (q := 6) hx_E hw (c_X0_begin l K 30 ad hI 6 isB_6 (gL σ18 23 v1.toNatClampNeg) (gL σ18 24 v1.toNatClampNeg) σ18 k29) mi_X0_begin mv_X0_begin ml_X2_67 (by decide) rfl rfl rfl ⟨⟨Nat.le_of_ble_eq_true rfl, Nat.le_of_ble_eq_true rfl⟩, rfl, rfl⟩ ⟨Nat.zero_le _, Nat.zero_le _⟩ hl.1 rfl (Nat.le_of_ble_eq_true rfl) dX2_restore_122 (fun H locs hw => ?_)
      refine lv_aload_n hx hb dX2_restore_125 rfl (lv_at hl 0 rfl) ?_
      refine lv_iload hx hb dX2_restore_126 (lv_at hl 2 rfl) ?_
      refine pC_20_7 hx_E hw fl_X2_31 dX2_restore_128 (fun H locs hw => ?_)
      refine lv_aload_n hx hb dX2_restore_131 rfl (lv_at hl 0 rfl) ?_
      refine lv_aload_n hx hb dX2_restore_132 rfl (lv_at hl 0 rfl) ?_
      refine gC_20_6 hx_E hw fl_X2_57 dX2_restore_133 ?_
      refine lv_iconst (v := 1) hx hb dX2_restore_136 (by decide) ?_
      refine lv_isub hx hb dX2_restore_137 ?_
      refine lv_iconst (v := 0) hx hb dX2_restore_138 (by decide) ?_
      obtain ⟨v30, k31, h⟩ := it_b h
      refine kS_i (As := [.int ((gI (sI σ28 20 7 v1) 20 6) - (1 : Int32)), .int (0 : Int32)]) (rest := [.ref (ad 20)]) hx_E hw (c_J9_max_7cf53 l K ((gI (sI σ28 20 7 v1) 20 6) - (1 : Int32)) (0 : Int32) k31) mi_J9_max_7cf53 sm_J9_max_7cf53 ml_X2_71 rfl ⟨⟨Nat.le_of_ble_eq_true rfl, Nat.le_of_ble_eq_true rfl⟩, rfl, rfl⟩ ⟨Nat.zero_le _, Nat.zero_le _⟩ hl.1 rfl (Nat.le_of_ble_eq_true rfl) dX2_restore_139 (fun H locs hw => ?_)
      refine pC_20_6 hx_E hw fl_X2_57 dX2_restore_142 (fun H locs hw => ?_)
      exact hE hw (Option.some.inj h) dX2_restore_145
    have hL19 : ∀ (n9 : Nat) (v16 : Int32) (σ17 : vSt), ∀ (H : Heap) (locs : List Loc) (ls : Array Slot), f_X2_restore_70 v1 n9 v16 σ17 = some φ21 → PW K 30 ad (cC K ad) A s.heap σ17 H locs → lv_has ls 6 [(0, .ref (ad 20)), (2, .ref (ad 6)), (3, .ref (ad 9)), (4, .int v1), (5, .int v16)] → W p l e (rmF 5 97) s m args below meth c H locs 0 0 Q (F0 m 70 ls []) := by
      intro n9
      induction n9 with
      | zero => intro v16 σ17 H locs ls h hw hl; rw [f_X2_restore_70.eq_1] at h; exact it_n h
      | succ n9 ih =>
        intro v16 σ17 H locs ls h hw hl
        rw [f_X2_restore_70.eq_2] at h
        refine lv_iload hx hb dX2_restore_70 (lv_at hl 4 rfl) ?_
        refine lv_bipush (v := 8) hx hb dX2_restore_72 (by decide) ?_
        refine lv_icmp_ge (tgt := 107) hx hb dX2_restore_74 (by decide) (fun c22 => ?_) (fun c22 => ?_)
        · replace h := it_t c22 h
          have e9 := Option.some.inj h
          subst e9
          exact hJ20 _ rfl  H locs ls hw (lv_sub hl [0, 1, 3] rfl)
        · replace h := it_f c22 h
          refine lv_iload hx hb dX2_restore_77 (lv_at hl 4 rfl) ?_
          refine lv_aload_n hx hb dX2_restore_79 rfl (lv_at hl 2 rfl) ?_
          refine alC_9 hx_E hw dX2_restore_80 ?_
          refine lv_icmp_ge (tgt := 107) hx hb dX2_restore_81 (by decide) (fun c23 => ?_) (fun c23 => ?_)
          · replace h := it_t c23 h
            have e9 := Option.some.inj h
            subst e9
            exact hJ20 _ rfl  H locs ls hw (lv_sub hl [0, 1, 3] rfl)
          · replace h := it_f c23 h
            refine lv_aload_n hx hb dX2_restore_84 rfl (lv_at hl 2 rfl) ?_
            refine lv_iload hx hb dX2_restore_85 (lv_at hl 4 rfl) ?_
            refine lv_aload_n hx hb dX2_restore_87 rfl (lv_at hl 0 rfl) ?_
            refine gC_20_5 hx_E hw fl_X2_28 dX2_restore_88 ?_
            refine lv_iload hx hb dX2_restore_91 (lv_at hl 3 rfl) ?_
            refine lv_bipush (v := 8) hx hb dX2_restore_93 (by decide) ?_
            refine lv_imul hx hb dX2_restore_95 ?_
            refine lv_iload hx hb dX2_restore_96 (lv_at hl 4 rfl) ?_
            refine lv_iadd hx hb dX2_restore_98 ?_
            obtain ⟨g24, h⟩ := it_g h
            refine aC_26 hx_E hw g24 dX2_restore_99 ?_
            obtain ⟨g25, h⟩ := it_g h
            refine sC_9 hx_E hw g25 dX2_restore_100 (fun H locs hw => ?_)
            refine lv_iinc (v := (v16 + 1)) (lv' := [(5, .int (v16 + 1)), (0, .ref (ad 20)), (2, .ref (ad 6)), (3, .ref (ad 9)), (4, .int v1)]) hx hb dX2_restore_101 hl (k := 4) rfl rfl (by decide) rfl (fun ls hl => ?_)
            refine lv_goto (tgt := 70) hx hb dX2_restore_104 (by decide) ?_
            exact ih _ _   H locs ls h hw (lv_sub hl [1, 2, 3, 4, 0] rfl)
    exact hL19 600 _ _   H locs ls h9 hw (lv_sub hl [1, 2, 3, 4, 0] rfl)
  have hL10 : ∀ (n9 : Nat) (v7 : Int32) (σ8 : vSt), ∀ (H : Heap) (locs : List Loc) (ls : Array Slot), f_X2_restore_34 v1 n9 v7 σ8 = some φ12 → PW K 30 ad (cC K ad) A s.heap σ8 H locs → lv_has ls 6 [(0, .ref (ad 20)), (1, .ref (ad 0)), (2, .ref (ad 6)), (3, .ref (ad 9)), (4, .int v1), (5, .int v7)] → W p l e (rmF 5 97) s m args below meth c H locs 0 0 Q (F0 m 34 ls []) := by
    intro n9
    induction n9 with
    | zero => intro v7 σ8 H locs ls h hw hl; rw [f_X2_restore_34.eq_1] at h; exact it_n h
    | succ n9 ih =>
      intro v7 σ8 H locs ls h hw hl
      rw [f_X2_restore_34.eq_2] at h
      refine lv_iload hx hb dX2_restore_34 (lv_at hl 5 rfl) ?_
      refine lv_bipush (v := 16) hx hb dX2_restore_36 (by decide) ?_
      refine lv_icmp_ge (tgt := 67) hx hb dX2_restore_38 (by decide) (fun c13 => ?_) (fun c13 => ?_)
      · replace h := it_t c13 h
        have e9 := Option.some.inj h
        subst e9
        exact hJ11 _ rfl  H locs ls hw (lv_sub hl [0, 2, 3, 4] rfl)
      · replace h := it_f c13 h
        refine lv_aload_n hx hb dX2_restore_41 rfl (lv_at hl 1 rfl) ?_
        refine gC_0_0 hx_E hw (by decide) fl_X2_56 dX2_restore_42 ?_
        refine lv_iload hx hb dX2_restore_45 (lv_at hl 5 rfl) ?_
        refine lv_aload_n hx hb dX2_restore_47 rfl (lv_at hl 0 rfl) ?_
        refine gC_20_4 hx_E hw fl_X2_25 dX2_restore_48 ?_
        refine lv_iload hx hb dX2_restore_51 (lv_at hl 4 rfl) ?_
        refine lv_bipush (v := 16) hx hb dX2_restore_53 (by decide) ?_
        refine lv_imul hx hb dX2_restore_55 ?_
        refine lv_iload hx hb dX2_restore_56 (lv_at hl 5 rfl) ?_
        refine lv_iadd hx hb dX2_restore_58 ?_
        obtain ⟨g14, h⟩ := it_g h
        refine aC_25 hx_E hw g14 dX2_restore_59 ?_
        obtain ⟨g15, h⟩ := it_g h
        refine sC_1 hx_E hw (by decide) g15 dX2_restore_60 (fun H locs hw => ?_)
        refine lv_iinc (v := (v7 + 1)) (lv' := [(5, .int (v7 + 1)), (0, .ref (ad 20)), (1, .ref (ad 0)), (2, .ref (ad 6)), (3, .ref (ad 9)), (4, .int v1)]) hx hb dX2_restore_61 hl (k := 5) rfl rfl (by decide) rfl (fun ls hl => ?_)
        refine lv_goto (tgt := 34) hx hb dX2_restore_64 (by decide) ?_
        exact ih _ _   H locs ls h hw (lv_sub hl [1, 2, 3, 4, 5, 0] rfl)
  exact hL10 600 _ _   H locs ls h9 hw (lv_sub hl [2, 3, 4, 5, 1, 0] rfl)
set_option maxHeartbeats 4000000 in
set_option maxRecDepth 100000 in
theorem c_X6_undo (l : Launch) (K : vK) (ad : Nat → Nat) (hI : adInj 30 ad) (σ : vSt) {r : Int32} {σ' : vSt} (h : f_X6_undo σ = some (r, σ')) : MCi l yX6_undo (wsY yX6_undo cX6_undo 1 (some .int)) (rmF 6 122) K 30 ad (cC K ad) [.ref (ad 8)] σ r σ' := by
  refine MCi_of (own := RX6) (plainFor_of_name (by decide)) hI rfl (Nat.le_of_ble_eq_true rfl) ?_
  intro p e s m args below meth c A Q hx_E hE H locs ls hw hl
  have hx := hx_E.1; have hb := hx_E.2.1; have hown := hx_E.2.2.2.1; have hts := hx_E.2.2.2.2.1
  replace hl : lv_has ls 1 [(0, .ref (ad 8))] := hl
  unfold f_X6_undo at h
  refine lv_aload_n hx hb dX6_undo_0 rfl (lv_at hl 0 rfl) ?_
  refine gC_8_4 hx_E hw fl_X6_54 dX6_undo_1 ?_
  refine gC_20_6 hx_E hw fl_X6_143 dX6_undo_4 ?_
  refine lv_if_ne (tgt := 13) hx hb dX6_undo_7 (by decide) (fun c1 => ?_) (fun c1 => ?_)
  · replace h := it_f c1 h
    refine lv_aload_n hx hb dX6_undo_13 rfl (lv_at hl 0 rfl) ?_
    refine gC_8_4 hx_E hw fl_X6_54 dX6_undo_14 ?_
    refine lv_aload_n hx hb dX6_undo_17 rfl (lv_at hl 0 rfl) ?_
    refine gC_8_0 hx_E hw fl_X6_27 dX6_undo_18 ?_
    refine lv_aload_n hx hb dX6_undo_21 rfl (lv_at hl 0 rfl) ?_
    refine gC_8_1 hx_E hw fl_X6_33 dX6_undo_22 ?_
    refine lv_aload_n hx hb dX6_undo_25 rfl (lv_at hl 0 rfl) ?_
    refine gC_8_6 hx_E hw fl_X6_65 dX6_undo_26 ?_
    obtain ⟨σ2, k3, h⟩ := it_b h
    refine kV_v (As := [.ref (ad 0), .ref (ad 6), .ref (ad 9)]) (rest := []) (q := 20) hx_E hw (c_X2_restore l K ad hI   σ k3) mi_X2_restore mv_X2_restore ml_X6_146 (by decide) rfl rfl rfl ⟨⟨Nat.le_of_ble_eq_true rfl, Nat.le_of_ble_eq_true rfl⟩, rfl, rfl⟩ ⟨Nat.zero_le _, Nat.zero_le _⟩ hl.1 rfl (Nat.le_of_ble_eq_true rfl) dX6_undo_29 (fun H locs hw => ?_)
    refine lv_aload_n hx hb dX6_undo_32 rfl (lv_at hl 0 rfl) ?_
    refine gC_8_4 hx_E hw fl_X6_54 dX6_undo_33 ?_
    refine gC_20_6 hx_E hw fl_X6_143 dX6_undo_36 ?_
    exact hE hw (congrArg Prod.fst (Option.some.inj h)) (congrArg Prod.snd (Option.some.inj h)) dX6_undo_39
  · replace h := it_t c1 h
    refine lv_bipush (v := -3) hx hb dX6_undo_10 (by decide) ?_
    exact hE hw (congrArg Prod.fst (Option.some.inj h)) (congrArg Prod.snd (Option.some.inj h)) dX6_undo_12
set_option maxHeartbeats 4000000 in
set_option maxRecDepth 100000 in
theorem c_X6_countOf (l : Launch) (K : vK) (ad : Nat → Nat) (hI : adInj 30 ad) (l1 : Int32) (σ : vSt) {r : Int32} (h : f_X6_countOf l1 σ = some r) : MCi l yX6_countOf (wsY yX6_countOf cX6_countOf 2 (some .int)) (rmF 2 21) K 30 ad (cC K ad) [.ref (ad 8), .int l1] σ r σ := by
  refine MCi_of (own := RX6) (plainFor_of_name (by decide)) hI rfl (Nat.le_of_ble_eq_true rfl) ?_
  intro p e s m args below meth c A Q hx_E hE H locs ls hw hl
  have hx := hx_E.1; have hb := hx_E.2.1; have hown := hx_E.2.2.2.1; have hts := hx_E.2.2.2.2.1
  replace hl : lv_has ls 2 [(0, .ref (ad 8)), (1, .int l1)] := hl
  unfold f_X6_countOf at h
  refine lv_aload_n hx hb dX6_countOf_0 rfl (lv_at hl 0 rfl) ?_
  refine gC_8_0 hx_E hw fl_X6_27 dX6_countOf_1 ?_
  refine lv_iload_n hx hb dX6_countOf_4 rfl (lv_at hl 1 rfl) ?_
  obtain ⟨v1, k2, h⟩ := it_b h
  refine kV_z (As := [.int l1]) (rest := []) (q := 0) hx_E hw (c_X1_hasCell l K 30 (by decide) ad hI  l1 σ k2) mi_X1_hasCell mv_X1_hasCell ml_X6_104 (by decide) rfl rfl rfl ⟨⟨Nat.le_of_ble_eq_true rfl, Nat.le_of_ble_eq_true rfl⟩, rfl, rfl⟩ ⟨Nat.zero_le _, Nat.zero_le _⟩ hl.1 rfl (Nat.le_of_ble_eq_true rfl) dX6_countOf_5 (fun z3 H locs hw => ?_)
  refine lv_if_eq (tgt := 23) hx hb dX6_countOf_8 (by decide) (fun c4 => ?_) (fun c4 => ?_)
  · replace h := it_t c4 h
    refine lv_bipush (v := -2) hx hb dX6_countOf_23 (by decide) ?_
    exact hE hw (Option.some.inj h) rfl dX6_countOf_25
  · replace h := it_f c4 h
    refine lv_aload_n hx hb dX6_countOf_11 rfl (lv_at hl 0 rfl) ?_
    refine gC_8_0 hx_E hw fl_X6_27 dX6_countOf_12 ?_
    refine gC_0_0 hx_E hw (by decide) fl_X6_94 dX6_countOf_15 ?_
    refine lv_iload_n hx hb dX6_countOf_18 rfl (lv_at hl 1 rfl) ?_
    obtain ⟨g5, h⟩ := it_g h
    refine aC_1 hx_E hw (by decide) g5 dX6_countOf_19 ?_
    refine lv_goto (tgt := 25) hx hb dX6_countOf_20 (by decide) ?_
    exact hE hw (Option.some.inj h) rfl dX6_countOf_25
set_option maxHeartbeats 4000000 in
set_option maxRecDepth 100000 in
theorem c_X6_edge (l : Launch) (K : vK) (ad : Nat → Nat) (hI : adInj 30 ad) (l1 : Int32) (σ : vSt) {r : Int32} (h : f_X6_edge l1 σ = some r) : MCi l yX6_edge (wsY yX6_edge cX6_edge 2 (some .int)) (rmF 2 21) K 30 ad (cC K ad) [.ref (ad 8), .int l1] σ r σ := by
  refine MCi_of (own := RX6) (plainFor_of_name (by decide)) hI rfl (Nat.le_of_ble_eq_true rfl) ?_
  intro p e s m args below meth c A Q hx_E hE H locs ls hw hl
  have hx := hx_E.1; have hb := hx_E.2.1; have hown := hx_E.2.2.2.1; have hts := hx_E.2.2.2.2.1
  replace hl : lv_has ls 2 [(0, .ref (ad 8)), (1, .int l1)] := hl
  unfold f_X6_edge at h
  refine lv_aload_n hx hb dX6_edge_0 rfl (lv_at hl 0 rfl) ?_
  refine gC_8_0 hx_E hw fl_X6_27 dX6_edge_1 ?_
  refine lv_iload_n hx hb dX6_edge_4 rfl (lv_at hl 1 rfl) ?_
  obtain ⟨v1, k2, h⟩ := it_b h
  refine kV_z (As := [.int l1]) (rest := []) (q := 0) hx_E hw (c_X1_hasEdge l K 30 (by decide) ad hI  l1 σ k2) mi_X1_hasEdge mv_X1_hasEdge ml_X6_115 (by decide) rfl rfl rfl ⟨⟨Nat.le_of_ble_eq_true rfl, Nat.le_of_ble_eq_true rfl⟩, rfl, rfl⟩ ⟨Nat.zero_le _, Nat.zero_le _⟩ hl.1 rfl (Nat.le_of_ble_eq_true rfl) dX6_edge_5 (fun z3 H locs hw => ?_)
  refine lv_if_eq (tgt := 22) hx hb dX6_edge_8 (by decide) (fun c4 => ?_) (fun c4 => ?_)
  · replace h := it_t c4 h
    refine lv_bipush (v := -2) hx hb dX6_edge_22 (by decide) ?_
    exact hE hw (Option.some.inj h) rfl dX6_edge_24
  · replace h := it_f c4 h
    refine lv_aload_n hx hb dX6_edge_11 rfl (lv_at hl 0 rfl) ?_
    refine gC_8_1 hx_E hw fl_X6_33 dX6_edge_12 ?_
    refine lv_iload_n hx hb dX6_edge_15 rfl (lv_at hl 1 rfl) ?_
    obtain ⟨v5, k6, h⟩ := it_b h
    refine kV_i (As := [.int l1]) (rest := []) (q := 6) hx_E hw (c_X0_markOf l K 30 ad hI 6 isB_6 l1 σ k6) mi_X0_markOf mv_X0_markOf ml_X6_118 (by decide) rfl rfl rfl ⟨⟨Nat.le_of_ble_eq_true rfl, Nat.le_of_ble_eq_true rfl⟩, rfl, rfl⟩ ⟨Nat.zero_le _, Nat.zero_le _⟩ hl.1 rfl (Nat.le_of_ble_eq_true rfl) dX6_edge_16 (fun H locs hw => ?_)
    refine lv_goto (tgt := 24) hx hb dX6_edge_19 (by decide) ?_
    exact hE hw (Option.some.inj h) rfl dX6_edge_24
set_option maxHeartbeats 4000000 in
set_option maxRecDepth 100000 in
theorem c_X6_edgeAt (l : Launch) (K : vK) (ad : Nat → Nat) (hI : adInj 30 ad) (l1 : Int32) (l2 : Int32) (l3 : Int32) (σ : vSt) {r : Int32} (h : f_X6_edgeAt l1 l2 l3 σ = some r) : MCi l yX6_edgeAt (wsY yX6_edgeAt cX6_edgeAt 8 (some .int)) (rmF 3 42) K 30 ad (cC K ad) [.ref (ad 8), .int l1, .int l2, .int l3] σ r σ := by
  refine MCi_of (own := RX6) (plainFor_of_name (by decide)) hI rfl (Nat.le_of_ble_eq_true rfl) ?_
  intro p e s m args below meth c A Q hx_E hE H locs ls hw hl
  have hx := hx_E.1; have hb := hx_E.2.1; have hown := hx_E.2.2.2.1; have hts := hx_E.2.2.2.2.1
  replace hl : lv_has ls 8 [(0, .ref (ad 8)), (1, .int l1), (2, .int l2), (3, .int l3)] := hl
  unfold f_X6_edgeAt at h
  refine lv_iload_n hx hb dX6_edgeAt_0 rfl (lv_at hl 1 rfl) ?_
  obtain ⟨φ4, h9, h_φ4⟩ := it_b h
  have hJ3 : ∀ (v2 : Int32), v2 = φ4 → (v2 = 0 ∨ v2 = 1) → ∀ (H : Heap) (locs : List Loc) (ls : Array Slot), PW K 30 ad (cC K ad) A s.heap σ H locs → lv_has ls 8 [(0, .ref (ad 8)), (1, .int l1), (2, .int l2), (3, .int l3)] → W p l e (rmF 3 42) s m args below meth c H locs 0 0 Q (F0 m 23 ls [.int v2]) := by
    intro v2 e9 z_v2 H locs ls hw hl
    subst e9
    replace h := h_φ4
    refine lv_istore (lv' := [(4, .int v2), (0, .ref (ad 8)), (1, .int l1), (2, .int l2), (3, .int l3)]) hx hb dX6_edgeAt_23 hl (by decide) rfl (fun ls hl => ?_)
    refine lv_iload hx hb dX6_edgeAt_25 (lv_at hl 0 rfl) ?_
    refine lv_if_eq (tgt := 34) hx hb dX6_edgeAt_27 (by decide) (fun c11 => ?_) (fun c11 => ?_)
    · replace h := it_t c11 h
      refine lv_bipush (v := -2) hx hb dX6_edgeAt_34 (by decide) ?_
      exact hE hw (Option.some.inj h) rfl dX6_edgeAt_36
    · replace h := it_f c11 h
      refine lv_iload_n hx hb dX6_edgeAt_30 rfl (lv_at hl 4 rfl) ?_
      refine lv_if_ge (tgt := 37) hx hb dX6_edgeAt_31 (by decide) (fun c12 => ?_) (fun c12 => ?_)
      · replace h := it_t c12 h
        refine lv_iload_n hx hb dX6_edgeAt_37 rfl (lv_at hl 2 rfl) ?_
        obtain ⟨φ16, h9, h_φ16⟩ := it_b h
        have hJ15 : ∀ (v14 : Int64), v14 = φ16 → ∀ (H : Heap) (locs : List Loc) (ls : Array Slot), PW K 30 ad (cC K ad) A s.heap σ H locs → lv_has ls 8 [(3, .int l3)] → W p l e (rmF 3 42) s m args below meth c H locs 0 0 Q (F0 m 62 ls [.long v14]) := by
          intro v14 e9 H locs ls hw hl
          subst e9
          replace h := h_φ16
          refine lv_lstore (lv' := [(5, .long v14), (3, .int l3)]) hx hb dX6_edgeAt_62 hl (by decide) rfl (fun ls hl => ?_)
          refine lv_iconst (v := 0) hx hb dX6_edgeAt_64 (by decide) ?_
          refine lv_istore (lv' := [(7, .int (0 : Int32)), (5, .long v14), (3, .int l3)]) hx hb dX6_edgeAt_65 hl (by decide) rfl (fun ls hl => ?_)
          obtain ⟨φ24, h9, h_φ24⟩ := it_b h
          have hJ23 : ∀ (v21 : Int64), v21 = φ24 → ∀ (H : Heap) (locs : List Loc) (ls : Array Slot), PW K 30 ad (cC K ad) A s.heap σ H locs → lv_has ls 8 [(5, .long v21)] → W p l e (rmF 3 42) s m args below meth c H locs 0 0 Q (F0 m 95 ls []) := by
            intro v21 e9 H locs ls hw hl
            subst e9
            replace h := h_φ24
            refine lv_lload hx hb dX6_edgeAt_95 (lv_at hl 0 rfl) ?_
            obtain ⟨v28, k29, h⟩ := it_b h
            refine kS_i (As := [.long v21]) (rest := []) hx_E hw (c_X6_leastOf l K v21 k29) mi_X6_leastOf sm_X6_leastOf ml_X6_159 rfl ⟨⟨Nat.le_of_ble_eq_true rfl, Nat.le_of_ble_eq_true rfl⟩, rfl, rfl⟩ ⟨Nat.zero_le _, Nat.zero_le _⟩ hl.1 rfl (Nat.le_of_ble_eq_true rfl) dX6_edgeAt_97 (fun H locs hw => ?_)
            exact hE hw (Option.some.inj h) rfl dX6_edgeAt_100
          have hL22 : ∀ (n9 : Nat) (v19 : Int64) (v20 : Int32), ∀ (H : Heap) (locs : List Loc) (ls : Array Slot), f_X6_edgeAt_67 l3 n9 v19 v20 = some φ24 → PW K 30 ad (cC K ad) A s.heap σ H locs → lv_has ls 8 [(3, .int l3), (5, .long v19), (7, .int v20)] → W p l e (rmF 3 42) s m args below meth c H locs 0 0 Q (F0 m 67 ls []) := by
            intro n9
            induction n9 with
            | zero => intro v19 v20 H locs ls h hw hl; rw [f_X6_edgeAt_67.eq_1] at h; exact it_n h
            | succ n9 ih =>
              intro v19 v20 H locs ls h hw hl
              rw [f_X6_edgeAt_67.eq_2] at h
              refine lv_iload hx hb dX6_edgeAt_67 (lv_at hl 2 rfl) ?_
              refine lv_iload_n hx hb dX6_edgeAt_69 rfl (lv_at hl 0 rfl) ?_
              refine lv_icmp_ge (tgt := 95) hx hb dX6_edgeAt_70 (by decide) (fun c25 => ?_) (fun c25 => ?_)
              · replace h := it_t c25 h
                have e9 := Option.some.inj h
                subst e9
                exact hJ23 _ rfl  H locs ls hw (lv_sub hl [1] rfl)
              · replace h := it_f c25 h
                refine lv_lload hx hb dX6_edgeAt_73 (lv_at hl 1 rfl) ?_
                refine lv_lconst (v := 0) hx hb dX6_edgeAt_75 (by decide) ?_
                refine W.lcmp hx hb dX6_edgeAt_76 ?_
                refine lv_if_eq (tgt := 95) hx hb dX6_edgeAt_77 (by decide) (fun c26 => ?_) (fun c26 => ?_)
                · replace h := it_t c26 h
                  have e9 := Option.some.inj h
                  subst e9
                  exact hJ23 _ rfl  H locs ls hw (lv_sub hl [1] rfl)
                · replace h := it_f c26 h
                  refine lv_lload hx hb dX6_edgeAt_80 (lv_at hl 1 rfl) ?_
                  refine lv_lload hx hb dX6_edgeAt_82 (lv_at hl 1 rfl) ?_
                  refine lv_lconst (v := 1) hx hb dX6_edgeAt_84 (by decide) ?_
                  refine lv_lsub hx hb dX6_edgeAt_85 ?_
                  refine lv_land hx hb dX6_edgeAt_86 ?_
                  obtain ⟨v27, e_v27, h⟩ := it_b h
                  refine lt_topl (Option.some.inj e_v27) ?_
                  refine lv_lstore (lv' := [(5, .long v27), (3, .int l3), (7, .int v20)]) hx hb dX6_edgeAt_87 hl (by decide) rfl (fun ls hl => ?_)
                  refine lv_iinc (v := (v20 + 1)) (lv' := [(7, .int (v20 + 1)), (5, .long v27), (3, .int l3)]) hx hb dX6_edgeAt_89 hl (k := 2) rfl rfl (by decide) rfl (fun ls hl => ?_)
                  refine lv_goto (tgt := 67) hx hb dX6_edgeAt_92 (by decide) ?_
                  exact ih _ _    H locs ls h hw (lv_sub hl [2, 1, 0] rfl)
          exact hL22 600 _ _   H locs ls h9 hw (lv_sub hl [2, 1, 0] rfl)
        replace h := h9
        refine lv_if_eq (tgt := 53) hx hb dX6_edgeAt_38 (by decide) (fun c13 => ?_) (fun c13 => ?_)
        · replace h := it_t c13 h
          refine lv_aload_n hx hb dX6_edgeAt_53 rfl (lv_at hl 1 rfl) ?_
          refine gC_8_0 hx_E hw fl_X6_27 dX6_edgeAt_54 ?_
          refine gC_0_1 hx_E hw (by decide) fl_X6_156 dX6_edgeAt_57 ?_
          refine lv_iload_n hx hb dX6_edgeAt_60 rfl (lv_at hl 3 rfl) ?_
          obtain ⟨g17, h⟩ := it_g h
          refine aC_2 hx_E hw (by decide) g17 dX6_edgeAt_61 ?_
          have e9 := Option.some.inj h
          subst e9
          exact hJ15 _ rfl  H locs ls hw (lv_sub hl [4] rfl)
        · replace h := it_f c13 h
          refine lv_aload_n hx hb dX6_edgeAt_41 rfl (lv_at hl 1 rfl) ?_
          refine gC_8_0 hx_E hw fl_X6_27 dX6_edgeAt_42 ?_
          refine gC_0_2 hx_E hw (by decide) fl_X6_152 dX6_edgeAt_45 ?_
          refine lv_iload_n hx hb dX6_edgeAt_48 rfl (lv_at hl 3 rfl) ?_
          obtain ⟨g18, h⟩ := it_g h
          refine aC_3 hx_E hw (by decide) g18 dX6_edgeAt_49 ?_
          refine lv_goto (tgt := 62) hx hb dX6_edgeAt_50 (by decide) ?_
          have e9 := Option.some.inj h
          subst e9
          exact hJ15 _ rfl  H locs ls hw (lv_sub hl [4] rfl)
      · replace h := it_f c12 h
        refine lv_bipush (v := -2) hx hb dX6_edgeAt_34 (by decide) ?_
        exact hE hw (Option.some.inj h) rfl dX6_edgeAt_36
  replace h := h9
  refine lv_if_eq (tgt := 15) hx hb dX6_edgeAt_1 (by decide) (fun c1 => ?_) (fun c1 => ?_)
  · replace h := it_t c1 h
    refine lv_aload_n hx hb dX6_edgeAt_15 rfl (lv_at hl 0 rfl) ?_
    refine gC_8_0 hx_E hw fl_X6_27 dX6_edgeAt_16 ?_
    refine lv_iload_n hx hb dX6_edgeAt_19 rfl (lv_at hl 2 rfl) ?_
    obtain ⟨v5, k6, h⟩ := it_b h
    refine kV_z (As := [.int l2]) (rest := []) (q := 0) hx_E hw (c_X1_hasCell l K 30 (by decide) ad hI  l2 σ k6) mi_X1_hasCell mv_X1_hasCell ml_X6_104 (by decide) rfl rfl rfl ⟨⟨Nat.le_of_ble_eq_true rfl, Nat.le_of_ble_eq_true rfl⟩, rfl, rfl⟩ ⟨Nat.zero_le _, Nat.zero_le _⟩ hl.1 rfl (Nat.le_of_ble_eq_true rfl) dX6_edgeAt_20 (fun z7 H locs hw => ?_)
    have e9 := Option.some.inj h
    subst e9
    exact hJ3 _ rfl z7 H locs ls hw (lv_sub hl [0, 1, 2, 3] rfl)
  · replace h := it_f c1 h
    refine lv_aload_n hx hb dX6_edgeAt_4 rfl (lv_at hl 0 rfl) ?_
    refine gC_8_0 hx_E hw fl_X6_27 dX6_edgeAt_5 ?_
    refine lv_iload_n hx hb dX6_edgeAt_8 rfl (lv_at hl 2 rfl) ?_
    obtain ⟨v8, k9, h⟩ := it_b h
    refine kV_z (As := [.int l2]) (rest := []) (q := 0) hx_E hw (c_X1_hasCorner l K 30 (by decide) ad hI  l2 σ k9) mi_X1_hasCorner mv_X1_hasCorner ml_X6_149 (by decide) rfl rfl rfl ⟨⟨Nat.le_of_ble_eq_true rfl, Nat.le_of_ble_eq_true rfl⟩, rfl, rfl⟩ ⟨Nat.zero_le _, Nat.zero_le _⟩ hl.1 rfl (Nat.le_of_ble_eq_true rfl) dX6_edgeAt_9 (fun z10 H locs hw => ?_)
    refine lv_goto (tgt := 23) hx hb dX6_edgeAt_12 (by decide) ?_
    have e9 := Option.some.inj h
    subst e9
    exact hJ3 _ rfl z10 H locs ls hw (lv_sub hl [0, 1, 2, 3] rfl)
set_option maxHeartbeats 4000000 in
set_option maxRecDepth 100000 in
theorem c_X0_finished (l : Launch) (K : vK) (N : Nat) (ad : Nat → Nat) (hI : adInj N ad) (b : Nat) (hB : isB N b) (σ : vSt) {r : Int32} (h : f_X0_finished b σ = some r) : MCz l yX0_finished (wsY yX0_finished cX0_finished 1 (some .boolean)) (rmF 2 20) K N ad (cC K ad) [.ref (ad b)] σ r σ := by
  refine MCz_of (own := RX0) (plainFor_of_name (by decide)) hI rfl (Nat.le_of_ble_eq_true rfl) ?_
  intro p e s m args below meth c A Q hx_E hE H locs ls hw hl
  have hx := hx_E.1; have hb := hx_E.2.1; have hown := hx_E.2.2.2.1; have hts := hx_E.2.2.2.2.1
  replace hl : lv_has ls 1 [(0, .ref (ad b))] := hl
  have hN := isB_n6 hB
  unfold f_X0_finished at h
  refine lv_aload_n hx hb dX0_finished_0 rfl (lv_at hl 0 rfl) ?_
  refine gC_B_9 hx_E hw hB fl_X0_39 dX0_finished_1 ?_
  refine lv_if_eq (tgt := 18) hx hb dX0_finished_4 (by decide) (fun c1 => ?_) (fun c1 => ?_)
  · replace h := it_t c1 h
    refine lv_iconst (v := 0) hx hb dX0_finished_18 (by decide) ?_
    exact hE hw (Option.some.inj h) rfl (Or.inl rfl) dX0_finished_19
  · replace h := it_f c1 h
    refine lv_aload_n hx hb dX0_finished_7 rfl (lv_at hl 0 rfl) ?_
    obtain ⟨v2, k3, h⟩ := it_b h
    refine kV_z (As := []) (rest := []) (q := b) hx_E hw (c_X0_fits l K N ad hI b hB  σ k3) mi_X0_fits mv_X0_fits ml_X0_43 (isB_lt hB) (cC_B hB _ _) rfl rfl ⟨⟨Nat.le_of_ble_eq_true rfl, Nat.le_of_ble_eq_true rfl⟩, rfl, rfl⟩ ⟨Nat.zero_le _, Nat.zero_le _⟩ hl.1 rfl (Nat.le_of_ble_eq_true rfl) dX0_finished_8 (fun z4 H locs hw => ?_)
    refine lv_if_eq (tgt := 18) hx hb dX0_finished_11 (by decide) (fun c5 => ?_) (fun c5 => ?_)
    · replace h := it_t c5 h
      refine lv_iconst (v := 0) hx hb dX0_finished_18 (by decide) ?_
      exact hE hw (Option.some.inj h) rfl (Or.inl rfl) dX0_finished_19
    · replace h := it_f c5 h
      refine lv_iconst (v := 1) hx hb dX0_finished_14 (by decide) ?_
      refine lv_goto (tgt := 19) hx hb dX0_finished_15 (by decide) ?_
      exact hE hw (Option.some.inj h) rfl (Or.inr rfl) dX0_finished_19
set_option maxHeartbeats 4000000 in
set_option maxRecDepth 100000 in
theorem c_X6_misfit (l : Launch) (K : vK) (ad : Nat → Nat) (hI : adInj 30 ad) (l1 : Int32) (σ : vSt) {r : Int32} (h : f_X6_misfit l1 σ = some r) : MCi l yX6_misfit (wsY yX6_misfit cX6_misfit 2 (some .int)) (rmF 3 42) K 30 ad (cC K ad) [.ref (ad 8), .int l1] σ r σ := by
  refine MCi_of (own := RX6) (plainFor_of_name (by decide)) hI rfl (Nat.le_of_ble_eq_true rfl) ?_
  intro p e s m args below meth c A Q hx_E hE H locs ls hw hl
  have hx := hx_E.1; have hb := hx_E.2.1; have hown := hx_E.2.2.2.1; have hts := hx_E.2.2.2.2.1
  replace hl : lv_has ls 2 [(0, .ref (ad 8)), (1, .int l1)] := hl
  unfold f_X6_misfit at h
  refine lv_iload_n hx hb dX6_misfit_0 rfl (lv_at hl 1 rfl) ?_
  by_cases c15 : l1 = 0
  · replace h := it_t c15 h
    refine lv_tableIn (off := 35) (tgt := 36) hx hb dX6_misfit_1 (by rw [c15]; decide) (by rw [c15]; decide) (by rw [c15]; rfl) (by decide) ?_
    refine lv_aload_n hx hb dX6_misfit_36 rfl (lv_at hl 0 rfl) ?_
    refine gC_8_1 hx_E hw fl_X6_33 dX6_misfit_37 ?_
    refine gC_B_4 hx_E hw isB_6 fl_X6_162 dX6_misfit_40 ?_
    refine lv_i2l (v := (gI σ 6 4).toInt64) hx hb dX6_misfit_43 rfl ?_
    obtain ⟨v1, k2, h⟩ := it_b h
    refine kS_i (As := [.long ((gI σ 6 4).toInt64)]) (rest := []) hx_E hw (c_X6_leastOf l K ((gI σ 6 4).toInt64) k2) mi_X6_leastOf sm_X6_leastOf ml_X6_159 rfl ⟨⟨Nat.le_of_ble_eq_true rfl, Nat.le_of_ble_eq_true rfl⟩, rfl, rfl⟩ ⟨Nat.zero_le _, Nat.zero_le _⟩ hl.1 rfl (Nat.le_of_ble_eq_true rfl) dX6_misfit_44 (fun H locs hw => ?_)
    exact hE hw (Option.some.inj h) rfl dX6_misfit_47
  replace h := it_f c15 h
  by_cases c16 : l1 = 1
  · replace h := it_t c16 h
    refine lv_tableIn (off := 47) (tgt := 48) hx hb dX6_misfit_1 (by rw [c16]; decide) (by rw [c16]; decide) (by rw [c16]; rfl) (by decide) ?_
    refine lv_aload_n hx hb dX6_misfit_48 rfl (lv_at hl 0 rfl) ?_
    refine gC_8_1 hx_E hw fl_X6_33 dX6_misfit_49 ?_
    refine gC_B_6 hx_E hw isB_6 fl_X6_165 dX6_misfit_52 ?_
    refine lv_i2l (v := (gI σ 6 6).toInt64) hx hb dX6_misfit_55 rfl ?_
    obtain ⟨v3, k4, h⟩ := it_b h
    refine kS_i (As := [.long ((gI σ 6 6).toInt64)]) (rest := []) hx_E hw (c_X6_leastOf l K ((gI σ 6 6).toInt64) k4) mi_X6_leastOf sm_X6_leastOf ml_X6_159 rfl ⟨⟨Nat.le_of_ble_eq_true rfl, Nat.le_of_ble_eq_true rfl⟩, rfl, rfl⟩ ⟨Nat.zero_le _, Nat.zero_le _⟩ hl.1 rfl (Nat.le_of_ble_eq_true rfl) dX6_misfit_56 (fun H locs hw => ?_)
    exact hE hw (Option.some.inj h) rfl dX6_misfit_59
  replace h := it_f c16 h
  by_cases c17 : l1 = 2
  · replace h := it_t c17 h
    refine lv_tableIn (off := 59) (tgt := 60) hx hb dX6_misfit_1 (by rw [c17]; decide) (by rw [c17]; decide) (by rw [c17]; rfl) (by decide) ?_
    refine lv_aload_n hx hb dX6_misfit_60 rfl (lv_at hl 0 rfl) ?_
    refine gC_8_1 hx_E hw fl_X6_33 dX6_misfit_61 ?_
    refine gC_B_8 hx_E hw isB_6 fl_X6_168 dX6_misfit_64 ?_
    obtain ⟨v5, k6, h⟩ := it_b h
    refine kS_i (As := [.long (gL σ 6 8)]) (rest := []) hx_E hw (c_X6_leastOf l K (gL σ 6 8) k6) mi_X6_leastOf sm_X6_leastOf ml_X6_159 rfl ⟨⟨Nat.le_of_ble_eq_true rfl, Nat.le_of_ble_eq_true rfl⟩, rfl, rfl⟩ ⟨Nat.zero_le _, Nat.zero_le _⟩ hl.1 rfl (Nat.le_of_ble_eq_true rfl) dX6_misfit_67 (fun H locs hw => ?_)
    exact hE hw (Option.some.inj h) rfl dX6_misfit_70
  replace h := it_f c17 h
  by_cases c18 : l1 = 3
  · replace h := it_t c18 h
    refine lv_tableIn (off := 70) (tgt := 71) hx hb dX6_misfit_1 (by rw [c18]; decide) (by rw [c18]; decide) (by rw [c18]; rfl) (by decide) ?_
    refine lv_aload_n hx hb dX6_misfit_71 rfl (lv_at hl 0 rfl) ?_
    refine gC_8_1 hx_E hw fl_X6_33 dX6_misfit_72 ?_
    obtain ⟨v7, k8, h⟩ := it_b h
    refine kV_z (As := []) (rest := []) (q := 6) hx_E hw (c_X0_fits l K 30 ad hI 6 isB_6  σ k8) mi_X0_fits mv_X0_fits ml_X6_129 (by decide) rfl rfl rfl ⟨⟨Nat.le_of_ble_eq_true rfl, Nat.le_of_ble_eq_true rfl⟩, rfl, rfl⟩ ⟨Nat.zero_le _, Nat.zero_le _⟩ hl.1 rfl (Nat.le_of_ble_eq_true rfl) dX6_misfit_75 (fun z9 H locs hw => ?_)
    refine lv_if_eq (tgt := 85) hx hb dX6_misfit_78 (by decide) (fun c10 => ?_) (fun c10 => ?_)
    · replace h := it_t c10 h
      refine lv_iconst (v := 0) hx hb dX6_misfit_85 (by decide) ?_
      exact hE hw (Option.some.inj h) rfl dX6_misfit_86
    · replace h := it_f c10 h
      refine lv_iconst (v := 1) hx hb dX6_misfit_81 (by decide) ?_
      refine lv_goto (tgt := 86) hx hb dX6_misfit_82 (by decide) ?_
      exact hE hw (Option.some.inj h) rfl dX6_misfit_86
  replace h := it_f c18 h
  by_cases c19 : l1 = 4
  · replace h := it_t c19 h
    refine lv_tableIn (off := 86) (tgt := 87) hx hb dX6_misfit_1 (by rw [c19]; decide) (by rw [c19]; decide) (by rw [c19]; rfl) (by decide) ?_
    refine lv_aload_n hx hb dX6_misfit_87 rfl (lv_at hl 0 rfl) ?_
    refine gC_8_1 hx_E hw fl_X6_33 dX6_misfit_88 ?_
    obtain ⟨v11, k12, h⟩ := it_b h
    refine kV_z (As := []) (rest := []) (q := 6) hx_E hw (c_X0_finished l K 30 ad hI 6 isB_6  σ k12) mi_X0_finished mv_X0_finished ml_X6_171 (by decide) rfl rfl rfl ⟨⟨Nat.le_of_ble_eq_true rfl, Nat.le_of_ble_eq_true rfl⟩, rfl, rfl⟩ ⟨Nat.zero_le _, Nat.zero_le _⟩ hl.1 rfl (Nat.le_of_ble_eq_true rfl) dX6_misfit_91 (fun z13 H locs hw => ?_)
    refine lv_if_eq (tgt := 101) hx hb dX6_misfit_94 (by decide) (fun c14 => ?_) (fun c14 => ?_)
    · replace h := it_t c14 h
      refine lv_iconst (v := 0) hx hb dX6_misfit_101 (by decide) ?_
      exact hE hw (Option.some.inj h) rfl dX6_misfit_102
    · replace h := it_f c14 h
      refine lv_iconst (v := 1) hx hb dX6_misfit_97 (by decide) ?_
      refine lv_goto (tgt := 102) hx hb dX6_misfit_98 (by decide) ?_
      exact hE hw (Option.some.inj h) rfl dX6_misfit_102
  replace h := it_f c19 h
  refine lv_tableOut (tgt := 103) hx hb dX6_misfit_1 (sw_out0_4 c15 c16 c17 c18 c19) (by decide) ?_
  refine lv_bipush (v := -2) hx hb dX6_misfit_103 (by decide) ?_
  exact hE hw (Option.some.inj h) rfl dX6_misfit_105
set_option maxHeartbeats 4000000 in
set_option maxRecDepth 100000 in
theorem c_X6_foundPart (l : Launch) (K : vK) (ad : Nat → Nat) (hI : adInj 30 ad) (l1 : Int32) (σ : vSt) {r : Int32} (h : f_X6_foundPart l1 σ = some r) : MCi l yX6_foundPart (wsY yX6_foundPart cX6_foundPart 2 (some .int)) (rmF 2 20) K 30 ad (cC K ad) [.ref (ad 8), .int l1] σ r σ := by
  refine MCi_of (own := RX6) (plainFor_of_name (by decide)) hI rfl (Nat.le_of_ble_eq_true rfl) ?_
  intro p e s m args below meth c A Q hx_E hE H locs ls hw hl
  have hx := hx_E.1; have hb := hx_E.2.1; have hown := hx_E.2.2.2.1; have hts := hx_E.2.2.2.2.1
  replace hl : lv_has ls 2 [(0, .ref (ad 8)), (1, .int l1)] := hl
  unfold f_X6_foundPart at h
  refine lv_iload_n hx hb dX6_foundPart_0 rfl (lv_at hl 1 rfl) ?_
  by_cases c3 : l1 = 0
  · replace h := it_t c3 h
    refine lv_tableIn (off := 27) (tgt := 28) hx hb dX6_foundPart_1 (by rw [c3]; decide) (by rw [c3]; decide) (by rw [c3]; rfl) (by decide) ?_
    refine lv_aload_n hx hb dX6_foundPart_28 rfl (lv_at hl 0 rfl) ?_
    refine gC_8_1 hx_E hw fl_X6_33 dX6_foundPart_29 ?_
    refine gC_B_10 hx_E hw isB_6 fl_X6_140 dX6_foundPart_32 ?_
    exact hE hw (Option.some.inj h) rfl dX6_foundPart_35
  replace h := it_f c3 h
  by_cases c4 : l1 = 1
  · replace h := it_t c4 h
    refine lv_tableIn (off := 35) (tgt := 36) hx hb dX6_foundPart_1 (by rw [c4]; decide) (by rw [c4]; decide) (by rw [c4]; rfl) (by decide) ?_
    refine lv_aload_n hx hb dX6_foundPart_36 rfl (lv_at hl 0 rfl) ?_
    refine gC_8_1 hx_E hw fl_X6_33 dX6_foundPart_37 ?_
    refine gC_B_11 hx_E hw isB_6 fl_X6_227 dX6_foundPart_40 ?_
    exact hE hw (Option.some.inj h) rfl dX6_foundPart_43
  replace h := it_f c4 h
  by_cases c5 : l1 = 2
  · replace h := it_t c5 h
    refine lv_tableIn (off := 43) (tgt := 44) hx hb dX6_foundPart_1 (by rw [c5]; decide) (by rw [c5]; decide) (by rw [c5]; rfl) (by decide) ?_
    refine lv_aload_n hx hb dX6_foundPart_44 rfl (lv_at hl 0 rfl) ?_
    refine gC_8_1 hx_E hw fl_X6_33 dX6_foundPart_45 ?_
    refine gC_B_10 hx_E hw isB_6 fl_X6_140 dX6_foundPart_48 ?_
    obtain ⟨v1, k2, h⟩ := it_b h
    refine kS_i (As := [.int (gI σ 6 10)]) (rest := []) hx_E hw (c_X6_becomes l K (gI σ 6 10) k2) mi_X6_becomes sm_X6_becomes ml_X6_230 rfl ⟨⟨Nat.le_of_ble_eq_true rfl, Nat.le_of_ble_eq_true rfl⟩, rfl, rfl⟩ ⟨Nat.zero_le _, Nat.zero_le _⟩ hl.1 rfl (Nat.le_of_ble_eq_true rfl) dX6_foundPart_51 (fun H locs hw => ?_)
    exact hE hw (Option.some.inj h) rfl dX6_foundPart_54
  replace h := it_f c5 h
  refine lv_tableOut (tgt := 55) hx hb dX6_foundPart_1 (sw_out0_2 c3 c4 c5) (by decide) ?_
  refine lv_aload_n hx hb dX6_foundPart_55 rfl (lv_at hl 0 rfl) ?_
  refine gC_8_1 hx_E hw fl_X6_33 dX6_foundPart_56 ?_
  refine gC_B_12 hx_E hw isB_6 fl_X6_233 dX6_foundPart_59 ?_
  exact hE hw (Option.some.inj h) rfl dX6_foundPart_62
