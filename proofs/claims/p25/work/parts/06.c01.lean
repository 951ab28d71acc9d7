set_option maxHeartbeats 4000000 in
set_option maxRecDepth 100000 in
theorem c_X1_lay (l : Launch) (K : vK) (N : Nat) (hN : 6 ≤ N) (ad : Nat → Nat) (hI : adInj N ad) (l1 : Int32) (l2 : Int32) (σ : vSt) {σ' : vSt} (h : f_X1_lay l1 l2 σ = some σ') : MCv l yX1_lay (wsY yX1_lay cX1_lay 5 none) (rmF 4 73) K N ad (cC K ad) [.ref (ad 0), .int l1, .int l2] σ σ' := by
  refine MCv_of (own := RX1) (plainFor_of_name (by decide)) hI rfl (Nat.le_of_ble_eq_true rfl) ?_
  intro p e s m args below meth c A Q hx_E hE H locs ls hw hl
  have hx := hx_E.1; have hb := hx_E.2.1; have hown := hx_E.2.2.2.1; have hts := hx_E.2.2.2.2.1
  replace hl : lv_has ls 5 [(0, .ref (ad 0)), (1, .int l1), (2, .int l2)] := hl
  unfold f_X1_lay at h
  refine lv_aload_n hx hb dX1_lay_0 rfl (lv_at hl 0 rfl) ?_
  refine lv_iconst (v := 1) hx hb dX1_lay_1 (by decide) ?_
  refine lv_iconst (v := 4) hx hb dX1_lay_2 (by decide) ?_
  refine lv_iload_n hx hb dX1_lay_3 rfl (lv_at hl 1 rfl) ?_
  obtain ⟨v1, k2, h⟩ := it_b h
  refine kS_i (As := [.int (4 : Int32), .int l1]) (rest := [.int (1 : Int32), .ref (ad 0)]) hx_E hw (c_J9_min_7cf53 l K (4 : Int32) l1 k2) mi_J9_min_7cf53 sm_J9_min_7cf53 ml_X1_38 rfl ⟨⟨Nat.le_of_ble_eq_true rfl, Nat.le_of_ble_eq_true rfl⟩, rfl, rfl⟩ ⟨Nat.zero_le _, Nat.zero_le _⟩ hl.1 rfl (Nat.le_of_ble_eq_true rfl) dX1_lay_4 (fun H locs hw => ?_)
  obtain ⟨v3, k4, h⟩ := it_b h
  refine kS_i (As := [.int (1 : Int32), .int v1]) (rest := [.ref (ad 0)]) hx_E hw (c_J9_max_7cf53 l K (1 : Int32) v1 k4) mi_J9_max_7cf53 sm_J9_max_7cf53 ml_X1_44 rfl ⟨⟨Nat.le_of_ble_eq_true rfl, Nat.le_of_ble_eq_true rfl⟩, rfl, rfl⟩ ⟨Nat.zero_le _, Nat.zero_le _⟩ hl.1 rfl (Nat.le_of_ble_eq_true rfl) dX1_lay_7 (fun H locs hw => ?_)
  refine pC_0_5 hx_E hw hN fl_X1_47 dX1_lay_10 (fun H locs hw => ?_)
  refine lv_aload_n hx hb dX1_lay_13 rfl (lv_at hl 0 rfl) ?_
  refine lv_iconst (v := 1) hx hb dX1_lay_14 (by decide) ?_
  refine lv_iconst (v := 4) hx hb dX1_lay_15 (by decide) ?_
  refine lv_iload_n hx hb dX1_lay_16 rfl (lv_at hl 2 rfl) ?_
  obtain ⟨v5, k6, h⟩ := it_b h
  refine kS_i (As := [.int (4 : Int32), .int l2]) (rest := [.int (1 : Int32), .ref (ad 0)]) hx_E hw (c_J9_min_7cf53 l K (4 : Int32) l2 k6) mi_J9_min_7cf53 sm_J9_min_7cf53 ml_X1_38 rfl ⟨⟨Nat.le_of_ble_eq_true rfl, Nat.le_of_ble_eq_true rfl⟩, rfl, rfl⟩ ⟨Nat.zero_le _, Nat.zero_le _⟩ hl.1 rfl (Nat.le_of_ble_eq_true rfl) dX1_lay_17 (fun H locs hw => ?_)
  obtain ⟨v7, k8, h⟩ := it_b h
  refine kS_i (As := [.int (1 : Int32), .int v5]) (rest := [.ref (ad 0)]) hx_E hw (c_J9_max_7cf53 l K (1 : Int32) v5 k8) mi_J9_max_7cf53 sm_J9_max_7cf53 ml_X1_44 rfl ⟨⟨Nat.le_of_ble_eq_true rfl, Nat.le_of_ble_eq_true rfl⟩, rfl, rfl⟩ ⟨Nat.zero_le _, Nat.zero_le _⟩ hl.1 rfl (Nat.le_of_ble_eq_true rfl) dX1_lay_20 (fun H locs hw => ?_)
  refine pC_0_6 hx_E hw hN fl_X1_50 dX1_lay_23 (fun H locs hw => ?_)
  refine lv_aload_n hx hb dX1_lay_26 rfl (lv_at hl 0 rfl) ?_
  refine lv_aload_n hx hb dX1_lay_27 rfl (lv_at hl 0 rfl) ?_
  refine gC_0_5 hx_E hw hN fl_X1_47 dX1_lay_28 ?_
  refine lv_aload_n hx hb dX1_lay_31 rfl (lv_at hl 0 rfl) ?_
  refine gC_0_6 hx_E hw hN fl_X1_50 dX1_lay_32 ?_
  refine lv_imul hx hb dX1_lay_35 ?_
  refine pC_0_7 hx_E hw hN fl_X1_28 dX1_lay_36 (fun H locs hw => ?_)
  refine lv_aload_n hx hb dX1_lay_39 rfl (lv_at hl 0 rfl) ?_
  refine lv_aload_n hx hb dX1_lay_40 rfl (lv_at hl 0 rfl) ?_
  refine gC_0_5 hx_E hw hN fl_X1_47 dX1_lay_41 ?_
  refine lv_iconst (v := 1) hx hb dX1_lay_44 (by decide) ?_
  refine lv_iadd hx hb dX1_lay_45 ?_
  refine lv_aload_n hx hb dX1_lay_46 rfl (lv_at hl 0 rfl) ?_
  refine gC_0_6 hx_E hw hN fl_X1_50 dX1_lay_47 ?_
  refine lv_iconst (v := 1) hx hb dX1_lay_50 (by decide) ?_
  refine lv_iadd hx hb dX1_lay_51 ?_
  refine lv_imul hx hb dX1_lay_52 ?_
  refine pC_0_8 hx_E hw hN fl_X1_32 dX1_lay_53 (fun H locs hw => ?_)
  refine lv_aload_n hx hb dX1_lay_56 rfl (lv_at hl 0 rfl) ?_
  refine lv_aload_n hx hb dX1_lay_57 rfl (lv_at hl 0 rfl) ?_
  refine gC_0_6 hx_E hw hN fl_X1_50 dX1_lay_58 ?_
  refine lv_iconst (v := 1) hx hb dX1_lay_61 (by decide) ?_
  refine lv_iadd hx hb dX1_lay_62 ?_
  refine lv_aload_n hx hb dX1_lay_63 rfl (lv_at hl 0 rfl) ?_
  refine gC_0_5 hx_E hw hN fl_X1_47 dX1_lay_64 ?_
  refine lv_imul hx hb dX1_lay_67 ?_
  refine lv_aload_n hx hb dX1_lay_68 rfl (lv_at hl 0 rfl) ?_
  refine gC_0_6 hx_E hw hN fl_X1_50 dX1_lay_69 ?_
  refine lv_aload_n hx hb dX1_lay_72 rfl (lv_at hl 0 rfl) ?_
  refine gC_0_5 hx_E hw hN fl_X1_47 dX1_lay_73 ?_
  refine lv_iconst (v := 1) hx hb dX1_lay_76 (by decide) ?_
  refine lv_iadd hx hb dX1_lay_77 ?_
  refine lv_imul hx hb dX1_lay_78 ?_
  refine lv_iadd hx hb dX1_lay_79 ?_
  refine pC_0_9 hx_E hw hN fl_X1_35 dX1_lay_80 (fun H locs hw => ?_)
  refine lv_iconst (v := 0) hx hb dX1_lay_83 (by decide) ?_
  refine lv_istore_n (lv' := [(3, .int (0 : Int32)), (0, .ref (ad 0)), (1, .int l1), (2, .int l2)]) hx hb dX1_lay_84 rfl hl (by decide) rfl (fun ls hl => ?_)
  obtain ⟨σ9, e_σ9, h⟩ := it_b h
  replace hw := PW_cast (Option.some.inj e_σ9) hw
  obtain ⟨φ15, h9, h_φ15⟩ := it_b h
  have hJ14 : ∀ (σ12 : vSt), σ12 = φ15 → ∀ (H : Heap) (locs : List Loc) (ls : Array Slot), PW K N ad (cC K ad) A s.heap σ12 H locs → lv_has ls 5 [(0, .ref (ad 0))] → W p l e (rmF 4 73) s m args below meth c H locs 0 0 Q (F0 m 111 ls []) := by
    intro σ12 e9 H locs ls hw hl
    subst e9
    replace h := h_φ15
    refine lv_iconst (v := 0) hx hb dX1_lay_111 (by decide) ?_
    refine lv_istore_n (lv' := [(3, .int (0 : Int32)), (0, .ref (ad 0))]) hx hb dX1_lay_112 rfl hl (by decide) rfl (fun ls hl => ?_)
    obtain ⟨φ24, h9, h_φ24⟩ := it_b h
    have hJ23 : ∀ (σ21 : vSt), σ21 = φ24 → ∀ (H : Heap) (locs : List Loc) (ls : Array Slot), PW K N ad (cC K ad) A s.heap σ21 H locs → lv_has ls 5 [(0, .ref (ad 0))] → W p l e (rmF 4 73) s m args below meth c H locs 0 0 Q (F0 m 132 ls []) := by
      intro σ21 e9 H locs ls hw hl
      subst e9
      replace h := h_φ24
      refine lv_iconst (v := 0) hx hb dX1_lay_132 (by decide) ?_
      refine lv_istore_n (lv' := [(3, .int (0 : Int32)), (0, .ref (ad 0))]) hx hb dX1_lay_133 rfl hl (by decide) rfl (fun ls hl => ?_)
      obtain ⟨φ32, h9, h_φ32⟩ := it_b h
      have hJ31 : ∀ (σ29 : vSt), σ29 = φ32 → ∀ (H : Heap) (locs : List Loc) (ls : Array Slot), PW K N ad (cC K ad) A s.heap σ29 H locs → lv_has ls 5 [] → W p l e (rmF 4 73) s m args below meth c H locs 0 0 Q (F0 m 173 ls []) := by
        intro σ29 e9 H locs ls hw hl
        subst e9
        replace h := h_φ32
        exact hE hw (Option.some.inj h) dX1_lay_173
      have hL30 : ∀ (n9 : Nat) (v27 : Int32) (σ28 : vSt), ∀ (H : Heap) (locs : List Loc) (ls : Array Slot), f_X1_lay_134  n9 v27 σ28 = some φ32 → PW K N ad (cC K ad) A s.heap σ28 H locs → lv_has ls 5 [(0, .ref (ad 0)), (3, .int v27)] → W p l e (rmF 4 73) s m args below meth c H locs 0 0 Q (F0 m 134 ls []) := by
        intro n9
        induction n9 with
        | zero => intro v27 σ28 H locs ls h hw hl; rw [f_X1_lay_134.eq_1] at h; exact it_n h
        | succ n9 ih =>
          intro v27 σ28 H locs ls h hw hl
          rw [f_X1_lay_134.eq_2] at h
          refine lv_iload_n hx hb dX1_lay_134 rfl (lv_at hl 1 rfl) ?_
          refine lv_aload_n hx hb dX1_lay_135 rfl (lv_at hl 0 rfl) ?_
          refine gC_0_6 hx_E hw hN fl_X1_50 dX1_lay_136 ?_
          refine lv_icmp_gt (tgt := 173) hx hb dX1_lay_139 (by decide) (fun c33 => ?_) (fun c33 => ?_)
          · replace h := it_t c33 h
            have e9 := Option.some.inj h
            subst e9
            exact hJ31 _ rfl  H locs ls hw (lv_sub hl [] rfl)
          · replace h := it_f c33 h
            refine lv_iconst (v := 0) hx hb dX1_lay_142 (by decide) ?_
            refine lv_istore (lv' := [(4, .int (0 : Int32)), (0, .ref (ad 0)), (3, .int v27)]) hx hb dX1_lay_143 hl (by decide) rfl (fun ls hl => ?_)
            obtain ⟨φ40, h9, h_φ40⟩ := it_b h
            have hJ39 : ∀ (σ36 : vSt), σ36 = φ40 → ∀ (H : Heap) (locs : List Loc) (ls : Array Slot), PW K N ad (cC K ad) A s.heap σ36 H locs → lv_has ls 5 [(0, .ref (ad 0)), (3, .int v27)] → W p l e (rmF 4 73) s m args below meth c H locs 0 0 Q (F0 m 167 ls []) := by
              intro σ36 e9 H locs ls hw hl
              subst e9
              replace h := h_φ40
              refine lv_iinc (v := (v27 + 1)) (lv' := [(3, .int (v27 + 1)), (0, .ref (ad 0))]) hx hb dX1_lay_167 hl (k := 1) rfl rfl (by decide) rfl (fun ls hl => ?_)
              refine lv_goto (tgt := 134) hx hb dX1_lay_170 (by decide) ?_
              exact ih _ _   H locs ls h hw (lv_sub hl [1, 0] rfl)
            have hL38 : ∀ (n9 : Nat) (v34 : Int32) (σ35 : vSt), ∀ (H : Heap) (locs : List Loc) (ls : Array Slot), f_X1_lay_145x37 v27 n9 v34 σ35 = some φ40 → PW K N ad (cC K ad) A s.heap σ35 H locs → lv_has ls 5 [(0, .ref (ad 0)), (3, .int v27), (4, .int v34)] → W p l e (rmF 4 73) s m args below meth c H locs 0 0 Q (F0 m 145 ls []) := by
              intro n9
              induction n9 with
              | zero => intro v34 σ35 H locs ls h hw hl; rw [f_X1_lay_145x37.eq_1] at h; exact it_n h
              | succ n9 ih =>
                intro v34 σ35 H locs ls h hw hl
                rw [f_X1_lay_145x37.eq_2] at h
                refine lv_iload hx hb dX1_lay_145 (lv_at hl 2 rfl) ?_
                refine lv_aload_n hx hb dX1_lay_147 rfl (lv_at hl 0 rfl) ?_
                refine gC_0_5 hx_E hw hN fl_X1_47 dX1_lay_148 ?_
                refine lv_icmp_gt (tgt := 167) hx hb dX1_lay_151 (by decide) (fun c41 => ?_) (fun c41 => ?_)
                · replace h := it_t c41 h
                  have e9 := Option.some.inj h
                  subst e9
                  exact hJ39 _ rfl  H locs ls hw (lv_sub hl [0, 1] rfl)
                · replace h := it_f c41 h
                  refine lv_aload_n hx hb dX1_lay_154 rfl (lv_at hl 0 rfl) ?_
                  refine lv_iload_n hx hb dX1_lay_155 rfl (lv_at hl 1 rfl) ?_
                  refine lv_iload hx hb dX1_lay_156 (lv_at hl 2 rfl) ?_
                  obtain ⟨σ42, k43, h⟩ := it_b h
                  refine kV_v (As := [.int v27, .int v34]) (rest := []) (q := 0) hx_E hw (c_X1_layEdgesFrom l K N hN ad hI  v27 v34 σ35 k43) mi_X1_layEdgesFrom mv_X1_layEdgesFrom ml_X1_53 (Nat.lt_of_lt_of_le (by decide) hN) rfl rfl rfl ⟨⟨Nat.le_of_ble_eq_true rfl, Nat.le_of_ble_eq_true rfl⟩, rfl, rfl⟩ ⟨Nat.zero_le _, Nat.zero_le _⟩ hl.1 rfl (Nat.le_of_ble_eq_true rfl) dX1_lay_158 (fun H locs hw => ?_)
                  refine lv_iinc (v := (v34 + 1)) (lv' := [(4, .int (v34 + 1)), (0, .ref (ad 0)), (3, .int v27)]) hx hb dX1_lay_161 hl (k := 2) rfl rfl (by decide) rfl (fun ls hl => ?_)
                  refine lv_goto (tgt := 145) hx hb dX1_lay_164 (by decide) ?_
                  exact ih _ _   H locs ls h hw (lv_sub hl [1, 2, 0] rfl)
            exact hL38 600 _ _   H locs ls h9 hw (lv_sub hl [1, 2, 0] rfl)
      exact hL30 600 _ _   H locs ls h9 hw (lv_sub hl [1, 0] rfl)
    have hL22 : ∀ (n9 : Nat) (v19 : Int32) (σ20 : vSt), ∀ (H : Heap) (locs : List Loc) (ls : Array Slot), f_X1_lay_113  n9 v19 σ20 = some φ24 → PW K N ad (cC K ad) A s.heap σ20 H locs → lv_has ls 5 [(0, .ref (ad 0)), (3, .int v19)] → W p l e (rmF 4 73) s m args below meth c H locs 0 0 Q (F0 m 113 ls []) := by
      intro n9
      induction n9 with
      | zero => intro v19 σ20 H locs ls h hw hl; rw [f_X1_lay_113.eq_1] at h; exact it_n h
      | succ n9 ih =>
        intro v19 σ20 H locs ls h hw hl
        rw [f_X1_lay_113.eq_2] at h
        refine lv_iload_n hx hb dX1_lay_113 rfl (lv_at hl 1 rfl) ?_
        refine lv_bipush (v := 25) hx hb dX1_lay_114 (by decide) ?_
        refine lv_icmp_ge (tgt := 132) hx hb dX1_lay_116 (by decide) (fun c25 => ?_) (fun c25 => ?_)
        · replace h := it_t c25 h
          have e9 := Option.some.inj h
          subst e9
          exact hJ23 _ rfl  H locs ls hw (lv_sub hl [0] rfl)
        · replace h := it_f c25 h
          refine lv_aload_n hx hb dX1_lay_119 rfl (lv_at hl 0 rfl) ?_
          refine gC_0_2 hx_E hw hN fl_X1_19 dX1_lay_120 ?_
          refine lv_iload_n hx hb dX1_lay_123 rfl (lv_at hl 1 rfl) ?_
          refine lv_lconst (v := 0) hx hb dX1_lay_124 (by decide) ?_
          obtain ⟨g26, h⟩ := it_g h
          refine sC_3 hx_E hw hN g26 dX1_lay_125 (fun H locs hw => ?_)
          refine lv_iinc (v := (v19 + 1)) (lv' := [(3, .int (v19 + 1)), (0, .ref (ad 0))]) hx hb dX1_lay_126 hl (k := 1) rfl rfl (by decide) rfl (fun ls hl => ?_)
          refine lv_goto (tgt := 113) hx hb dX1_lay_129 (by decide) ?_
          exact ih _ _   H locs ls h hw (lv_sub hl [1, 0] rfl)
    exact hL22 600 _ _   H locs ls h9 hw (lv_sub hl [1, 0] rfl)
  have hL13 : ∀ (n9 : Nat) (v10 : Int32) (σ11 : vSt), ∀ (H : Heap) (locs : List Loc) (ls : Array Slot), f_X1_lay_85  n9 v10 σ11 = some φ15 → PW K N ad (cC K ad) A s.heap σ11 H locs → lv_has ls 5 [(0, .ref (ad 0)), (3, .int v10)] → W p l e (rmF 4 73) s m args below meth c H locs 0 0 Q (F0 m 85 ls []) := by
    intro n9
    induction n9 with
    | zero => intro v10 σ11 H locs ls h hw hl; rw [f_X1_lay_85.eq_1] at h; exact it_n h
    | succ n9 ih =>
      intro v10 σ11 H locs ls h hw hl
      rw [f_X1_lay_85.eq_2] at h
      refine lv_iload_n hx hb dX1_lay_85 rfl (lv_at hl 1 rfl) ?_
      refine lv_bipush (v := 16) hx hb dX1_lay_86 (by decide) ?_
      refine lv_icmp_ge (tgt := 111) hx hb dX1_lay_88 (by decide) (fun c16 => ?_) (fun c16 => ?_)
      · replace h := it_t c16 h
        have e9 := Option.some.inj h
        subst e9
        exact hJ14 _ rfl  H locs ls hw (lv_sub hl [0] rfl)
      · replace h := it_f c16 h
        refine lv_aload_n hx hb dX1_lay_91 rfl (lv_at hl 0 rfl) ?_
        refine gC_0_0 hx_E hw hN fl_X1_9 dX1_lay_92 ?_
        refine lv_iload_n hx hb dX1_lay_95 rfl (lv_at hl 1 rfl) ?_
        refine lv_iconst (v := -1) hx hb dX1_lay_96 (by decide) ?_
        obtain ⟨g17, h⟩ := it_g h
        refine sC_1 hx_E hw hN g17 dX1_lay_97 (fun H locs hw => ?_)
        refine lv_aload_n hx hb dX1_lay_98 rfl (lv_at hl 0 rfl) ?_
        refine gC_0_1 hx_E hw hN fl_X1_15 dX1_lay_99 ?_
        refine lv_iload_n hx hb dX1_lay_102 rfl (lv_at hl 1 rfl) ?_
        refine lv_lconst (v := 0) hx hb dX1_lay_103 (by decide) ?_
        obtain ⟨g18, h⟩ := it_g h
        refine sC_2 hx_E hw hN g18 dX1_lay_104 (fun H locs hw => ?_)
        refine lv_iinc (v := (v10 + 1)) (lv' := [(3, .int (v10 + 1)), (0, .ref (ad 0))]) hx hb dX1_lay_105 hl (k := 1) rfl rfl (by decide) rfl (fun ls hl => ?_)
        refine lv_goto (tgt := 85) hx hb dX1_lay_108 (by decide) ?_
        exact ih _ _   H locs ls h hw (lv_sub hl [1, 0] rfl)
  exact hL13 600 _ _   H locs ls h9 hw (lv_sub hl [1, 0] rfl)
set_option maxHeartbeats 4000000 in
set_option maxRecDepth 100000 in
theorem c_X6_forgetMade (l : Launch) (K : vK) (ad : Nat → Nat) (hI : adInj 30 ad) (σ : vSt) {σ' : vSt} (h : f_X6_forgetMade σ = some σ') : MCv l yX6_forgetMade (wsY yX6_forgetMade cX6_forgetMade 2 none) (rmF 1 0) K 30 ad (cC K ad) [.ref (ad 8)] σ σ' := by
  refine MCv_of (own := RX6) (plainFor_of_name (by decide)) hI rfl (Nat.le_of_ble_eq_true rfl) ?_
  intro p e s m args below meth c A Q hx_E hE H locs ls hw hl
  have hx := hx_E.1; have hb := hx_E.2.1; have hown := hx_E.2.2.2.1; have hts := hx_E.2.2.2.2.1
  replace hl : lv_has ls 2 [(0, .ref (ad 8))] := hl
  unfold f_X6_forgetMade at h
  refine lv_iconst (v := 0) hx hb dX6_forgetMade_0 (by decide) ?_
  refine lv_istore_n (lv' := [(1, .int (0 : Int32)), (0, .ref (ad 8))]) hx hb dX6_forgetMade_1 rfl hl (by decide) rfl (fun ls hl => ?_)
  obtain ⟨φ6, h9, h_φ6⟩ := it_b h
  have hJ5 : ∀ (σ3 : vSt), σ3 = φ6 → ∀ (H : Heap) (locs : List Loc) (ls : Array Slot), PW K 30 ad (cC K ad) A s.heap σ3 H locs → lv_has ls 2 [] → W p l e (rmF 1 0) s m args below meth c H locs 0 0 Q (F0 m 21 ls []) := by
    intro σ3 e9 H locs ls hw hl
    subst e9
    replace h := h_φ6
    exact hE hw (Option.some.inj h) dX6_forgetMade_21
  have hL4 : ∀ (n9 : Nat) (v1 : Int32) (σ2 : vSt), ∀ (H : Heap) (locs : List Loc) (ls : Array Slot), f_X6_forgetMade_2  n9 v1 σ2 = some φ6 → PW K 30 ad (cC K ad) A s.heap σ2 H locs → lv_has ls 2 [(0, .ref (ad 8)), (1, .int v1)] → W p l e (rmF 1 0) s m args below meth c H locs 0 0 Q (F0 m 2 ls []) := by
    intro n9
    induction n9 with
    | zero => intro v1 σ2 H locs ls h hw hl; rw [f_X6_forgetMade_2.eq_1] at h; exact it_n h
    | succ n9 ih =>
      intro v1 σ2 H locs ls h hw hl
      rw [f_X6_forgetMade_2.eq_2] at h
      refine lv_iload_n hx hb dX6_forgetMade_2 rfl (lv_at hl 1 rfl) ?_
      refine lv_bipush (v := 8) hx hb dX6_forgetMade_3 (by decide) ?_
      refine lv_icmp_ge (tgt := 21) hx hb dX6_forgetMade_5 (by decide) (fun c7 => ?_) (fun c7 => ?_)
      · replace h := it_t c7 h
        have e9 := Option.some.inj h
        subst e9
        exact hJ5 _ rfl  H locs ls hw (lv_sub hl [] rfl)
      · replace h := it_f c7 h
        refine lv_aload_n hx hb dX6_forgetMade_8 rfl (lv_at hl 0 rfl) ?_
        refine gC_8_6 hx_E hw fl_X6_65 dX6_forgetMade_9 ?_
        refine lv_iload_n hx hb dX6_forgetMade_12 rfl (lv_at hl 1 rfl) ?_
        refine lv_iconst (v := 0) hx hb dX6_forgetMade_13 (by decide) ?_
        obtain ⟨g8, h⟩ := it_g h
        refine sC_9 hx_E hw g8 dX6_forgetMade_14 (fun H locs hw => ?_)
        refine lv_iinc (v := (v1 + 1)) (lv' := [(1, .int (v1 + 1)), (0, .ref (ad 8))]) hx hb dX6_forgetMade_15 hl (k := 1) rfl rfl (by decide) rfl (fun ls hl => ?_)
        refine lv_goto (tgt := 2) hx hb dX6_forgetMade_18 (by decide) ?_
        exact ih _ _   H locs ls h hw (lv_sub hl [1, 0] rfl)
  exact hL4 600 _ _   H locs ls h9 hw (lv_sub hl [1, 0] rfl)
set_option maxHeartbeats 4000000 in
set_option maxRecDepth 100000 in
theorem c_X1_allEdges (l : Launch) (K : vK) (N : Nat) (hN : 6 ≤ N) (ad : Nat → Nat) (hI : adInj N ad) (σ : vSt) {r : Int64} (h : f_X1_allEdges σ = some r) : MCl l yX1_allEdges (wsY yX1_allEdges cX1_allEdges 1 (some .long)) (rmF 1 0) K N ad (cC K ad) [.ref (ad 0)] σ r σ := by
  refine MCl_of (own := RX1) (plainFor_of_name (by decide)) hI rfl (Nat.le_of_ble_eq_true rfl) ?_
  intro p e s m args below meth c A Q hx_E hE H locs ls hw hl
  have hx := hx_E.1; have hb := hx_E.2.1; have hown := hx_E.2.2.2.1; have hts := hx_E.2.2.2.2.1
  replace hl : lv_has ls 1 [(0, .ref (ad 0))] := hl
  unfold f_X1_allEdges at h
  refine lv_lconst (v := 1) hx hb dX1_allEdges_0 (by decide) ?_
  refine lv_aload_n hx hb dX1_allEdges_1 rfl (lv_at hl 0 rfl) ?_
  refine gC_0_9 hx_E hw hN fl_X1_35 dX1_allEdges_2 ?_
  refine lv_lshl (v := (o_lshl (1 : Int64) (gI σ 0 9))) hx hb dX1_allEdges_5 rfl ?_
  refine lv_lconst (v := 1) hx hb dX1_allEdges_6 (by decide) ?_
  refine lv_lsub hx hb dX1_allEdges_7 ?_
  exact hE hw (Option.some.inj h) rfl dX1_allEdges_8
set_option maxHeartbeats 4000000 in
set_option maxRecDepth 100000 in
theorem c_J13_bitCount_95d88 (l : Launch) (K : vK) (l0 : Int64) {r : Int32} (h : f_J13_bitCount_95d88 l0 = some r) : MCi l yJ13_bitCount_95d88 (wsY yJ13_bitCount_95d88 cJ13_bitCount_95d88 2 (some .int)) (rmF 1 0) K 0 ad_0 (cf_0) [.long l0] st_0 r st_0 := by
  refine MCi_of (own := RJ13) (plainFor_of_name (by decide)) adInj_0 rfl (Nat.le_of_ble_eq_true rfl) ?_
  intro p e s m args below meth c A Q hx_E hE H locs ls hw hl
  have hx := hx_E.1; have hb := hx_E.2.1; have hown := hx_E.2.2.2.1; have hts := hx_E.2.2.2.2.1
  replace hl : lv_has ls 2 [(0, .long l0)] := hl
  unfold f_J13_bitCount_95d88 at h
  refine lv_lload_n hx hb dJ13_bitCount_95d88_0 rfl (lv_at hl 0 rfl) ?_
  refine lv_lload_n hx hb dJ13_bitCount_95d88_1 rfl (lv_at hl 0 rfl) ?_
  refine lv_iconst (v := 1) hx hb dJ13_bitCount_95d88_2 (by decide) ?_
  refine lv_lushr (v := (o_lushr l0 (1 : Int32))) hx hb dJ13_bitCount_95d88_3 rfl ?_
  refine lv_ldc2 (v := 6148914691236517205) hx hb hown (hts _ kl_J13_314) dJ13_bitCount_95d88_4 ?_
  refine lv_land hx hb dJ13_bitCount_95d88_7 ?_
  refine lv_lsub hx hb dJ13_bitCount_95d88_8 ?_
  obtain ⟨v1, e_v1, h⟩ := it_b h
  refine lt_topl (Option.some.inj e_v1) ?_
  refine lv_lstore_n (lv' := [(0, .long v1)]) hx hb dJ13_bitCount_95d88_9 rfl hl (by decide) rfl (fun ls hl => ?_)
  refine lv_lload_n hx hb dJ13_bitCount_95d88_10 rfl (lv_at hl 0 rfl) ?_
  refine lv_ldc2 (v := 3689348814741910323) hx hb hown (hts _ kl_J13_316) dJ13_bitCount_95d88_11 ?_
  refine lv_land hx hb dJ13_bitCount_95d88_14 ?_
  refine lv_lload_n hx hb dJ13_bitCount_95d88_15 rfl (lv_at hl 0 rfl) ?_
  refine lv_iconst (v := 2) hx hb dJ13_bitCount_95d88_16 (by decide) ?_
  refine lv_lushr (v := (o_lushr v1 (2 : Int32))) hx hb dJ13_bitCount_95d88_17 rfl ?_
  refine lv_ldc2 (v := 3689348814741910323) hx hb hown (hts _ kl_J13_316) dJ13_bitCount_95d88_18 ?_
  refine lv_land hx hb dJ13_bitCount_95d88_21 ?_
  refine lv_ladd hx hb dJ13_bitCount_95d88_22 ?_
  obtain ⟨v2, e_v2, h⟩ := it_b h
  refine lt_topl (Option.some.inj e_v2) ?_
  refine lv_lstore_n (lv' := [(0, .long v2)]) hx hb dJ13_bitCount_95d88_23 rfl hl (by decide) rfl (fun ls hl => ?_)
  refine lv_lload_n hx hb dJ13_bitCount_95d88_24 rfl (lv_at hl 0 rfl) ?_
  refine lv_lload_n hx hb dJ13_bitCount_95d88_25 rfl (lv_at hl 0 rfl) ?_
  refine lv_iconst (v := 4) hx hb dJ13_bitCount_95d88_26 (by decide) ?_
  refine lv_lushr (v := (o_lushr v2 (4 : Int32))) hx hb dJ13_bitCount_95d88_27 rfl ?_
  refine lv_ladd hx hb dJ13_bitCount_95d88_28 ?_
  refine lv_ldc2 (v := 1085102592571150095) hx hb hown (hts _ kl_J13_318) dJ13_bitCount_95d88_29 ?_
  refine lv_land hx hb dJ13_bitCount_95d88_32 ?_
  obtain ⟨v3, e_v3, h⟩ := it_b h
  refine lt_topl (Option.some.inj e_v3) ?_
  refine lv_lstore_n (lv' := [(0, .long v3)]) hx hb dJ13_bitCount_95d88_33 rfl hl (by decide) rfl (fun ls hl => ?_)
  refine lv_lload_n hx hb dJ13_bitCount_95d88_34 rfl (lv_at hl 0 rfl) ?_
  refine lv_lload_n hx hb dJ13_bitCount_95d88_35 rfl (lv_at hl 0 rfl) ?_
  refine lv_bipush (v := 8) hx hb dJ13_bitCount_95d88_36 (by decide) ?_
  refine lv_lushr (v := (o_lushr v3 (8 : Int32))) hx hb dJ13_bitCount_95d88_38 rfl ?_
  refine lv_ladd hx hb dJ13_bitCount_95d88_39 ?_
  obtain ⟨v4, e_v4, h⟩ := it_b h
  refine lt_topl (Option.some.inj e_v4) ?_
  refine lv_lstore_n (lv' := [(0, .long v4)]) hx hb dJ13_bitCount_95d88_40 rfl hl (by decide) rfl (fun ls hl => ?_)
  refine lv_lload_n hx hb dJ13_bitCount_95d88_41 rfl (lv_at hl 0 rfl) ?_
  refine lv_lload_n hx hb dJ13_bitCount_95d88_42 rfl (lv_at hl 0 rfl) ?_
  refine lv_bipush (v := 16) hx hb dJ13_bitCount_95d88_43 (by decide) ?_
  refine lv_lushr (v := (o_lushr v4 (16 : Int32))) hx hb dJ13_bitCount_95d88_45 rfl ?_
  refine lv_ladd hx hb dJ13_bitCount_95d88_46 ?_
  obtain ⟨v5, e_v5, h⟩ := it_b h
  refine lt_topl (Option.some.inj e_v5) ?_
  refine lv_lstore_n (lv' := [(0, .long v5)]) hx hb dJ13_bitCount_95d88_47 rfl hl (by decide) rfl (fun ls hl => ?_)
  refine lv_lload_n hx hb dJ13_bitCount_95d88_48 rfl (lv_at hl 0 rfl) ?_
  refine lv_lload_n hx hb dJ13_bitCount_95d88_49 rfl (lv_at hl 0 rfl) ?_
  refine lv_bipush (v := 32) hx hb dJ13_bitCount_95d88_50 (by decide) ?_
  refine lv_lushr (v := (o_lushr v5 (32 : Int32))) hx hb dJ13_bitCount_95d88_52 rfl ?_
  refine lv_ladd hx hb dJ13_bitCount_95d88_53 ?_
  obtain ⟨v6, e_v6, h⟩ := it_b h
  refine lt_topl (Option.some.inj e_v6) ?_
  refine lv_lstore_n (lv' := [(0, .long v6)]) hx hb dJ13_bitCount_95d88_54 rfl hl (by decide) rfl (fun ls hl => ?_)
  refine lv_lload_n hx hb dJ13_bitCount_95d88_55 rfl (lv_at hl 0 rfl) ?_
  refine lv_l2i (v := v6.toInt32) hx hb dJ13_bitCount_95d88_56 rfl ?_
  refine lv_bipush (v := 127) hx hb dJ13_bitCount_95d88_57 (by decide) ?_
  refine lv_iand hx hb dJ13_bitCount_95d88_59 ?_
  exact hE hw (Option.some.inj h) rfl dJ13_bitCount_95d88_60
set_option maxHeartbeats 4000000 in
set_option maxRecDepth 100000 in
theorem c_X6_with (l : Launch) (K : vK) (l0 : Int32) (l1 : Int32) (l2 : Int32) {r : Int32} (h : f_X6_with l0 l1 l2 = some r) : MCi l yX6_with (wsY yX6_with cX6_with 3 (some .int)) (rmF 1 0) K 0 ad_0 (cf_0) [.int l0, .int l1, .int l2] st_0 r st_0 := by
  refine MCi_of (own := RX6) (plainFor_of_name (by decide)) adInj_0 rfl (Nat.le_of_ble_eq_true rfl) ?_
  intro p e s m args below meth c A Q hx_E hE H locs ls hw hl
  have hx := hx_E.1; have hb := hx_E.2.1; have hown := hx_E.2.2.2.1; have hts := hx_E.2.2.2.2.1
  replace hl : lv_has ls 3 [(0, .int l0), (1, .int l1), (2, .int l2)] := hl
  unfold f_X6_with at h
  refine lv_iload_n hx hb dX6_with_0 rfl (lv_at hl 2 rfl) ?_
  refine lv_if_eq (tgt := 12) hx hb dX6_with_1 (by decide) (fun c1 => ?_) (fun c1 => ?_)
  · replace h := it_t c1 h
    refine lv_iload_n hx hb dX6_with_12 rfl (lv_at hl 0 rfl) ?_
    refine lv_iconst (v := 1) hx hb dX6_with_13 (by decide) ?_
    refine lv_iload_n hx hb dX6_with_14 rfl (lv_at hl 1 rfl) ?_
    refine lv_ishl hx hb dX6_with_15 ?_
    refine lv_iconst (v := -1) hx hb dX6_with_16 (by decide) ?_
    refine lv_ixor hx hb dX6_with_17 ?_
    refine lv_iand hx hb dX6_with_18 ?_
    exact hE hw (Option.some.inj h) rfl dX6_with_19
  · replace h := it_f c1 h
    refine lv_iload_n hx hb dX6_with_4 rfl (lv_at hl 0 rfl) ?_
    refine lv_iconst (v := 1) hx hb dX6_with_5 (by decide) ?_
    refine lv_iload_n hx hb dX6_with_6 rfl (lv_at hl 1 rfl) ?_
    refine lv_ishl hx hb dX6_with_7 ?_
    refine lv_ior hx hb dX6_with_8 ?_
    refine lv_goto (tgt := 19) hx hb dX6_with_9 (by decide) ?_
    exact hE hw (Option.some.inj h) rfl dX6_with_19
set_option maxHeartbeats 4000000 in
set_option maxRecDepth 100000 in
theorem c_X0_lookAtCell (l : Launch) (K : vK) (N : Nat) (ad : Nat → Nat) (hI : adInj N ad) (b : Nat) (hB : isB N b) (l1 : Int32) (σ : vSt) {σ' : vSt} (h : f_X0_lookAtCell b l1 σ = some σ') : MCv l yX0_lookAtCell (wsY yX0_lookAtCell cX0_lookAtCell 5 none) (rmF 2 22) K N ad (cC K ad) [.ref (ad b), .int l1] σ σ' := by
  refine MCv_of (own := RX0) (plainFor_of_name (by decide)) hI rfl (Nat.le_of_ble_eq_true rfl) ?_
  intro p e s m args below meth c A Q hx_E hE H locs ls hw hl
  have hx := hx_E.1; have hb := hx_E.2.1; have hown := hx_E.2.2.2.1; have hts := hx_E.2.2.2.2.1
  replace hl : lv_has ls 5 [(0, .ref (ad b)), (1, .int l1)] := hl
  have hN := isB_n6 hB
  unfold f_X0_lookAtCell at h
  refine lv_aload_n hx hb dX0_lookAtCell_0 rfl (lv_at hl 0 rfl) ?_
  refine gC_B_0 hx_E hw hB fl_X0_25 dX0_lookAtCell_1 ?_
  refine lv_iload_n hx hb dX0_lookAtCell_4 rfl (lv_at hl 1 rfl) ?_
  obtain ⟨v1, k2, h⟩ := it_b h
  refine kV_z (As := [.int l1]) (rest := []) (q := 0) hx_E hw (c_X1_hasCell l K N hN ad hI  l1 σ k2) mi_X1_hasCell mv_X1_hasCell ml_X0_97 (Nat.lt_of_lt_of_le (by decide) hN) rfl rfl rfl ⟨⟨Nat.le_of_ble_eq_true rfl, Nat.le_of_ble_eq_true rfl⟩, rfl, rfl⟩ ⟨Nat.zero_le _, Nat.zero_le _⟩ hl.1 rfl (Nat.le_of_ble_eq_true rfl) dX0_lookAtCell_5 (fun z3 H locs hw => ?_)
  refine lv_if_eq (tgt := 24) hx hb dX0_lookAtCell_8 (by decide) (fun c4 => ?_) (fun c4 => ?_)
  · replace h := it_t c4 h
    exact hE hw (Option.some.inj h) dX0_lookAtCell_24
  · replace h := it_f c4 h
    refine lv_aload_n hx hb dX0_lookAtCell_11 rfl (lv_at hl 0 rfl) ?_
    refine gC_B_0 hx_E hw hB fl_X0_25 dX0_lookAtCell_12 ?_
    refine gC_0_0 hx_E hw hN fl_X0_100 dX0_lookAtCell_15 ?_
    refine lv_iload_n hx hb dX0_lookAtCell_18 rfl (lv_at hl 1 rfl) ?_
    obtain ⟨g5, h⟩ := it_g h
    refine aC_1 hx_E hw hN g5 dX0_lookAtCell_19 ?_
    refine lv_iconst (v := -1) hx hb dX0_lookAtCell_20 (by decide) ?_
    refine lv_icmp_ne (tgt := 25) hx hb dX0_lookAtCell_21 (by decide) (fun c6 => ?_) (fun c6 => ?_)
    · replace h := it_f c6 h
      refine lv_aload_n hx hb dX0_lookAtCell_25 rfl (lv_at hl 0 rfl) ?_
      refine gC_B_0 hx_E hw hB fl_X0_25 dX0_lookAtCell_26 ?_
      refine gC_0_0 hx_E hw hN fl_X0_100 dX0_lookAtCell_29 ?_
      refine lv_iload_n hx hb dX0_lookAtCell_32 rfl (lv_at hl 1 rfl) ?_
      obtain ⟨g7, h⟩ := it_g h
      refine aC_1 hx_E hw hN g7 dX0_lookAtCell_33 ?_
      obtain ⟨v8, e_v8, h⟩ := it_b h
      refine lt_topi (Option.some.inj e_v8) ?_
      refine lv_istore_n (lv' := [(2, .int v8), (0, .ref (ad b)), (1, .int l1)]) hx hb dX0_lookAtCell_34 rfl hl (by decide) rfl (fun ls hl => ?_)
      refine lv_aload_n hx hb dX0_lookAtCell_35 rfl (lv_at hl 1 rfl) ?_
      refine gC_B_0 hx_E hw hB fl_X0_25 dX0_lookAtCell_36 ?_
      refine gC_0_1 hx_E hw hN fl_X0_103 dX0_lookAtCell_39 ?_
      refine lv_iload_n hx hb dX0_lookAtCell_42 rfl (lv_at hl 2 rfl) ?_
      obtain ⟨g9, h⟩ := it_g h
      refine aC_2 hx_E hw hN g9 dX0_lookAtCell_43 ?_
      refine lv_aload_n hx hb dX0_lookAtCell_44 rfl (lv_at hl 1 rfl) ?_
      refine gC_B_2 hx_E hw hB fl_X0_47 dX0_lookAtCell_45 ?_
      refine lv_land hx hb dX0_lookAtCell_48 ?_
      obtain ⟨v10, k11, h⟩ := it_b h
      refine kS_i (As := [.long ((gL σ 2 l1.toNatClampNeg) &&& (gL σ b 2))]) (rest := []) hx_E hw (c_J13_bitCount_95d88 l K ((gL σ 2 l1.toNatClampNeg) &&& (gL σ b 2)) k11) mi_J13_bitCount_95d88 sm_J13_bitCount_95d88 ml_X0_107 rfl ⟨⟨Nat.le_of_ble_eq_true rfl, Nat.le_of_ble_eq_true rfl⟩, rfl, rfl⟩ ⟨Nat.zero_le _, Nat.zero_le _⟩ hl.1 rfl (Nat.le_of_ble_eq_true rfl) dX0_lookAtCell_49 (fun H locs hw => ?_)
      refine lv_istore_n (lv' := [(3, .int v10), (2, .int v8), (0, .ref (ad b)), (1, .int l1)]) hx hb dX0_lookAtCell_52 rfl hl (by decide) rfl (fun ls hl => ?_)
      refine lv_aload_n hx hb dX0_lookAtCell_53 rfl (lv_at hl 2 rfl) ?_
      refine gC_B_0 hx_E hw hB fl_X0_25 dX0_lookAtCell_54 ?_
      refine gC_0_1 hx_E hw hN fl_X0_103 dX0_lookAtCell_57 ?_
      refine lv_iload_n hx hb dX0_lookAtCell_60 rfl (lv_at hl 3 rfl) ?_
      obtain ⟨g12, h⟩ := it_g h
      refine aC_2 hx_E hw hN g12 dX0_lookAtCell_61 ?_
      refine lv_aload_n hx hb dX0_lookAtCell_62 rfl (lv_at hl 2 rfl) ?_
      refine gC_B_3 hx_E hw hB fl_X0_50 dX0_lookAtCell_63 ?_
      refine lv_land hx hb dX0_lookAtCell_66 ?_
      obtain ⟨v13, k14, h⟩ := it_b h
      refine kS_i (As := [.long ((gL σ 2 l1.toNatClampNeg) &&& (gL σ b 3))]) (rest := []) hx_E hw (c_J13_bitCount_95d88 l K ((gL σ 2 l1.toNatClampNeg) &&& (gL σ b 3)) k14) mi_J13_bitCount_95d88 sm_J13_bitCount_95d88 ml_X0_107 rfl ⟨⟨Nat.le_of_ble_eq_true rfl, Nat.le_of_ble_eq_true rfl⟩, rfl, rfl⟩ ⟨Nat.zero_le _, Nat.zero_le _⟩ hl.1 rfl (Nat.le_of_ble_eq_true rfl) dX0_lookAtCell_67 (fun H locs hw => ?_)
      refine lv_istore (lv' := [(4, .int v13), (3, .int v10), (2, .int v8), (0, .ref (ad b)), (1, .int l1)]) hx hb dX0_lookAtCell_70 hl (by decide) rfl (fun ls hl => ?_)
      refine lv_aload_n hx hb dX0_lookAtCell_72 rfl (lv_at hl 3 rfl) ?_
      refine lv_aload_n hx hb dX0_lookAtCell_73 rfl (lv_at hl 3 rfl) ?_
      refine gC_B_4 hx_E hw hB fl_X0_29 dX0_lookAtCell_74 ?_
      refine lv_iload_n hx hb dX0_lookAtCell_77 rfl (lv_at hl 4 rfl) ?_
      refine lv_iload_n hx hb dX0_lookAtCell_78 rfl (lv_at hl 1 rfl) ?_
      refine lv_iload_n hx hb dX0_lookAtCell_79 rfl (lv_at hl 2 rfl) ?_
      obtain ⟨φ18, h9, h_φ18⟩ := it_b h
      have hJ17 : ∀ (v16 : Int32), v16 = φ18 → (v16 = 0 ∨ v16 = 1) → ∀ (H : Heap) (locs : List Loc) (ls : Array Slot), PW K N ad (cC K ad) A s.heap σ H locs → lv_has ls 5 [(0, .ref (ad b)), (1, .int l1), (2, .int v8), (3, .int v10), (4, .int v13)] → W p l e (rmF 2 22) s m args below meth c H locs 0 0 Q (F0 m 96 ls [.int v16, .int l1, .int (gI σ b 4), .ref (ad b)]) := by
        intro v16 e9 z_v16 H locs ls hw hl
        subst e9
        replace h := h_φ18
        obtain ⟨v20, k21, h⟩ := it_b h
        refine kN_i (As := [.int (gI σ b 4), .int l1, .int v16]) (rest := [.ref (ad b)]) hx_E hw (c_X6_with l K (gI σ b 4) l1 v16 k21) mi_X6_with sm_X6_with (hx_E.2.2.2.2.2.2.2.2.1) rfl ⟨⟨Nat.le_of_ble_eq_true rfl, Nat.le_of_ble_eq_true rfl⟩, rfl, rfl⟩ ⟨Nat.zero_le _, Nat.zero_le _⟩ hl.1 rfl (Nat.le_of_ble_eq_true rfl) dX0_lookAtCell_96 (fun H locs hw => ?_)
        refine pC_B_4 hx_E hw hB fl_X0_29 dX0_lookAtCell_99 (fun H locs hw => ?_)
        refine lv_aload_n hx hb dX0_lookAtCell_102 rfl (lv_at hl 0 rfl) ?_
        refine lv_aload_n hx hb dX0_lookAtCell_103 rfl (lv_at hl 0 rfl) ?_
        refine gC_B_5 hx_E hw hB fl_X0_53 dX0_lookAtCell_104 ?_
        refine lv_iload_n hx hb dX0_lookAtCell_107 rfl (lv_at hl 1 rfl) ?_
        refine lv_iload_n hx hb dX0_lookAtCell_108 rfl (lv_at hl 3 rfl) ?_
        refine lv_iload_n hx hb dX0_lookAtCell_109 rfl (lv_at hl 2 rfl) ?_
        obtain ⟨φ25, h9, h_φ25⟩ := it_b h
        have hJ24 : ∀ (v23 : Int32), v23 = φ25 → (v23 = 0 ∨ v23 = 1) → ∀ (H : Heap) (locs : List Loc) (ls : Array Slot), PW K N ad (cC K ad) A s.heap (sI σ b 4 v20) H locs → lv_has ls 5 [(0, .ref (ad b)), (1, .int l1), (2, .int v8), (3, .int v10), (4, .int v13)] → W p l e (rmF 2 22) s m args below meth c H locs 0 0 Q (F0 m 118 ls [.int v23, .int l1, .int (gI (sI σ b 4 v20) b 5), .ref (ad b)]) := by
          intro v23 e9 z_v23 H locs ls hw hl
          subst e9
          replace h := h_φ25
          obtain ⟨v26, k27, h⟩ := it_b h
          refine kN_i (As := [.int (gI (sI σ b 4 v20) b 5), .int l1, .int v23]) (rest := [.ref (ad b)]) hx_E hw (c_X6_with l K (gI (sI σ b 4 v20) b 5) l1 v23 k27) mi_X6_with sm_X6_with (hx_E.2.2.2.2.2.2.2.2.1) rfl ⟨⟨Nat.le_of_ble_eq_true rfl, Nat.le_of_ble_eq_true rfl⟩, rfl, rfl⟩ ⟨Nat.zero_le _, Nat.zero_le _⟩ hl.1 rfl (Nat.le_of_ble_eq_true rfl) dX0_lookAtCell_118 (fun H locs hw => ?_)
          refine pC_B_5 hx_E hw hB fl_X0_53 dX0_lookAtCell_121 (fun H locs hw => ?_)
          refine lv_aload_n hx hb dX0_lookAtCell_124 rfl (lv_at hl 0 rfl) ?_
          refine gC_B_1 hx_E hw hB fl_X0_9 dX0_lookAtCell_125 ?_
          refine lv_iconst (v := 0) hx hb dX0_lookAtCell_128 (by decide) ?_
          refine lv_aload_n hx hb dX0_lookAtCell_129 rfl (lv_at hl 0 rfl) ?_
          refine gC_B_1 hx_E hw hB fl_X0_9 dX0_lookAtCell_130 ?_
          refine lv_iconst (v := 0) hx hb dX0_lookAtCell_133 (by decide) ?_
          refine acC_R hx_E hw hB (by decide) rfl dX0_lookAtCell_134 ?_
          refine lv_iload_n hx hb dX0_lookAtCell_135 rfl (lv_at hl 1 rfl) ?_
          refine lv_iload hx hb dX0_lookAtCell_136 (lv_at hl 4 rfl) ?_
          obtain ⟨φ31, h9, h_φ31⟩ := it_b h
          have hJ30 : ∀ (v29 : Int32), v29 = φ31 → (v29 = 0 ∨ v29 = 1) → ∀ (H : Heap) (locs : List Loc) (ls : Array Slot), PW K N ad (cC K ad) A s.heap (sI (sI σ b 4 v20) b 5 v26) H locs → lv_has ls 5 [(0, .ref (ad b)), (1, .int l1), (2, .int v8), (3, .int v10), (4, .int v13)] → W p l e (rmF 2 22) s m args below meth c H locs 0 0 Q (F0 m 151 ls [.int v29, .int l1, .int (gI (sI (sI σ b 4 v20) b 5 v26) (b + 1) 0), .int (0 : Int32), .ref (ad (b + 1))]) := by
            intro v29 e9 z_v29 H locs ls hw hl
            subst e9
            replace h := h_φ31
            obtain ⟨v33, k34, h⟩ := it_b h
            refine kN_i (As := [.int (gI (sI (sI σ b 4 v20) b 5 v26) (b + 1) 0), .int l1, .int v29]) (rest := [.int (0 : Int32), .ref (ad (b + 1))]) hx_E hw (c_X6_with l K (gI (sI (sI σ b 4 v20) b 5 v26) (b + 1) 0) l1 v29 k34) mi_X6_with sm_X6_with (hx_E.2.2.2.2.2.2.2.2.1) rfl ⟨⟨Nat.le_of_ble_eq_true rfl, Nat.le_of_ble_eq_true rfl⟩, rfl, rfl⟩ ⟨Nat.zero_le _, Nat.zero_le _⟩ hl.1 rfl (Nat.le_of_ble_eq_true rfl) dX0_lookAtCell_151 (fun H locs hw => ?_)
            refine scC_R hx_E hw hB (by decide) rfl dX0_lookAtCell_154 (fun H locs hw => ?_)
            refine lv_aload_n hx hb dX0_lookAtCell_155 rfl (lv_at hl 0 rfl) ?_
            refine gC_B_1 hx_E hw hB fl_X0_9 dX0_lookAtCell_156 ?_
            refine lv_iconst (v := 1) hx hb dX0_lookAtCell_159 (by decide) ?_
            refine lv_aload_n hx hb dX0_lookAtCell_160 rfl (lv_at hl 0 rfl) ?_
            refine gC_B_1 hx_E hw hB fl_X0_9 dX0_lookAtCell_161 ?_
            refine lv_iconst (v := 1) hx hb dX0_lookAtCell_164 (by decide) ?_
            refine acC_R hx_E hw hB (by decide) rfl dX0_lookAtCell_165 ?_
            refine lv_iload_n hx hb dX0_lookAtCell_166 rfl (lv_at hl 1 rfl) ?_
            refine lv_iload hx hb dX0_lookAtCell_167 (lv_at hl 4 rfl) ?_
            obtain ⟨φ38, h9, h_φ38⟩ := it_b h
            have hJ37 : ∀ (v36 : Int32), v36 = φ38 → (v36 = 0 ∨ v36 = 1) → ∀ (H : Heap) (locs : List Loc) (ls : Array Slot), PW K N ad (cC K ad) A s.heap (sI (sI (sI σ b 4 v20) b 5 v26) (b + 1) 0 v33) H locs → lv_has ls 5 [] → W p l e (rmF 2 22) s m args below meth c H locs 0 0 Q (F0 m 185 ls [.int v36, .int l1, .int (gI (sI (sI (sI σ b 4 v20) b 5 v26) (b + 1) 0 v33) (b + 1) 1), .int (1 : Int32), .ref (ad (b + 1))]) := by
              intro v36 e9 z_v36 H locs ls hw hl
              subst e9
              replace h := h_φ38
              obtain ⟨v40, k41, h⟩ := it_b h
              refine kN_i (As := [.int (gI (sI (sI (sI σ b 4 v20) b 5 v26) (b + 1) 0 v33) (b + 1) 1), .int l1, .int v36]) (rest := [.int (1 : Int32), .ref (ad (b + 1))]) hx_E hw (c_X6_with l K (gI (sI (sI (sI σ b 4 v20) b 5 v26) (b + 1) 0 v33) (b + 1) 1) l1 v36 k41) mi_X6_with sm_X6_with (hx_E.2.2.2.2.2.2.2.2.1) rfl ⟨⟨Nat.le_of_ble_eq_true rfl, Nat.le_of_ble_eq_true rfl⟩, rfl, rfl⟩ ⟨Nat.zero_le _, Nat.zero_le _⟩ hl.1 rfl (Nat.le_of_ble_eq_true rfl) dX0_lookAtCell_185 (fun H locs hw => ?_)
              refine scC_R hx_E hw hB (by decide) rfl dX0_lookAtCell_188 (fun H locs hw => ?_)
              exact hE hw (Option.some.inj h) dX0_lookAtCell_189
            replace h := h9
            refine lv_if_le (tgt := 184) hx hb dX0_lookAtCell_169 (by decide) (fun c35 => ?_) (fun c35 => ?_)
            · replace h := it_t c35 h
              refine lv_iconst (v := 0) hx hb dX0_lookAtCell_184 (by decide) ?_
              have e9 := Option.some.inj h
              subst e9
              exact hJ37 _ rfl (Or.inl rfl) H locs ls hw (lv_sub hl [] rfl)
            · replace h := it_f c35 h
              refine lv_iload_n hx hb dX0_lookAtCell_172 rfl (lv_at hl 3 rfl) ?_
              refine lv_iload hx hb dX0_lookAtCell_173 (lv_at hl 4 rfl) ?_
              refine lv_iadd hx hb dX0_lookAtCell_175 ?_
              refine lv_iload_n hx hb dX0_lookAtCell_176 rfl (lv_at hl 2 rfl) ?_
              refine lv_icmp_ne (tgt := 184) hx hb dX0_lookAtCell_177 (by decide) (fun c39 => ?_) (fun c39 => ?_)
              · replace h := it_f c39 h
                refine lv_iconst (v := 0) hx hb dX0_lookAtCell_184 (by decide) ?_
                have e9 := Option.some.inj h
                subst e9
                exact hJ37 _ rfl (Or.inl rfl) H locs ls hw (lv_sub hl [] rfl)
              · replace h := it_t c39 h
                refine lv_iconst (v := 1) hx hb dX0_lookAtCell_180 (by decide) ?_
                refine lv_goto (tgt := 185) hx hb dX0_lookAtCell_181 (by decide) ?_
                have e9 := Option.some.inj h
                subst e9
                exact hJ37 _ rfl (Or.inr rfl) H locs ls hw (lv_sub hl [] rfl)
          replace h := h9
          refine lv_if_le (tgt := 150) hx hb dX0_lookAtCell_138 (by decide) (fun c28 => ?_) (fun c28 => ?_)
          · replace h := it_t c28 h
            refine lv_iconst (v := 0) hx hb dX0_lookAtCell_150 (by decide) ?_
            have e9 := Option.some.inj h
            subst e9
            exact hJ30 _ rfl (Or.inl rfl) H locs ls hw (lv_sub hl [0, 1, 2, 3, 4] rfl)
          · replace h := it_f c28 h
            refine lv_iload_n hx hb dX0_lookAtCell_141 rfl (lv_at hl 3 rfl) ?_
            refine lv_iload_n hx hb dX0_lookAtCell_142 rfl (lv_at hl 2 rfl) ?_
            refine lv_icmp_ne (tgt := 150) hx hb dX0_lookAtCell_143 (by decide) (fun c32 => ?_) (fun c32 => ?_)
            · replace h := it_f c32 h
              refine lv_iconst (v := 0) hx hb dX0_lookAtCell_150 (by decide) ?_
              have e9 := Option.some.inj h
              subst e9
              exact hJ30 _ rfl (Or.inl rfl) H locs ls hw (lv_sub hl [0, 1, 2, 3, 4] rfl)
            · replace h := it_t c32 h
              refine lv_iconst (v := 1) hx hb dX0_lookAtCell_146 (by decide) ?_
              refine lv_goto (tgt := 151) hx hb dX0_lookAtCell_147 (by decide) ?_
              have e9 := Option.some.inj h
              subst e9
              exact hJ30 _ rfl (Or.inr rfl) H locs ls hw (lv_sub hl [0, 1, 2, 3, 4] rfl)
        replace h := h9
        refine lv_icmp_eq (tgt := 117) hx hb dX0_lookAtCell_110 (by decide) (fun c22 => ?_) (fun c22 => ?_)
        · replace h := it_t c22 h
          refine lv_iconst (v := 0) hx hb dX0_lookAtCell_117 (by decide) ?_
          have e9 := Option.some.inj h
          subst e9
          exact hJ24 _ rfl (Or.inl rfl) H locs ls hw (lv_sub hl [0, 1, 2, 3, 4] rfl)
        · replace h := it_f c22 h
          refine lv_iconst (v := 1) hx hb dX0_lookAtCell_113 (by decide) ?_
          refine lv_goto (tgt := 118) hx hb dX0_lookAtCell_114 (by decide) ?_
          have e9 := Option.some.inj h
          subst e9
          exact hJ24 _ rfl (Or.inr rfl) H locs ls hw (lv_sub hl [0, 1, 2, 3, 4] rfl)
      replace h := h9
      refine lv_icmp_gt (tgt := 91) hx hb dX0_lookAtCell_80 (by decide) (fun c15 => ?_) (fun c15 => ?_)
      · replace h := it_t c15 h
        refine lv_iconst (v := 1) hx hb dX0_lookAtCell_91 (by decide) ?_
        refine lv_goto (tgt := 96) hx hb dX0_lookAtCell_92 (by decide) ?_
        have e9 := Option.some.inj h
        subst e9
        exact hJ17 _ rfl (Or.inr rfl) H locs ls hw (lv_sub hl [3, 4, 2, 1, 0] rfl)
      · replace h := it_f c15 h
        refine lv_iload_n hx hb dX0_lookAtCell_83 rfl (lv_at hl 1 rfl) ?_
        refine lv_iload hx hb dX0_lookAtCell_84 (lv_at hl 0 rfl) ?_
        refine lv_iadd hx hb dX0_lookAtCell_86 ?_
        refine lv_iload_n hx hb dX0_lookAtCell_87 rfl (lv_at hl 2 rfl) ?_
        refine lv_icmp_ge (tgt := 95) hx hb dX0_lookAtCell_88 (by decide) (fun c19 => ?_) (fun c19 => ?_)
        · replace h := it_t c19 h
          refine lv_iconst (v := 0) hx hb dX0_lookAtCell_95 (by decide) ?_
          have e9 := Option.some.inj h
          subst e9
          exact hJ17 _ rfl (Or.inl rfl) H locs ls hw (lv_sub hl [3, 4, 2, 1, 0] rfl)
        · replace h := it_f c19 h
          refine lv_iconst (v := 1) hx hb dX0_lookAtCell_91 (by decide) ?_
          refine lv_goto (tgt := 96) hx hb dX0_lookAtCell_92 (by decide) ?_
          have e9 := Option.some.inj h
          subst e9
          exact hJ17 _ rfl (Or.inr rfl) H locs ls hw (lv_sub hl [3, 4, 2, 1, 0] rfl)
    · replace h := it_t c6 h
      exact hE hw (Option.some.inj h) dX0_lookAtCell_24
set_option maxHeartbeats 4000000 in
set_option maxRecDepth 100000 in
theorem c_X0_lookAtCorner (l : Launch) (K : vK) (N : Nat) (ad : Nat → Nat) (hI : adInj N ad) (b : Nat) (hB : isB N b) (l1 : Int32) (σ : vSt) {σ' : vSt} (h : f_X0_lookAtCorner b l1 σ = some σ') : MCv l yX0_lookAtCorner (wsY yX0_lookAtCorner cX0_lookAtCorner 4 none) (rmF 2 22) K N ad (cC K ad) [.ref (ad b), .int l1] σ σ' := by
  refine MCv_of (own := RX0) (plainFor_of_name (by decide)) hI rfl (Nat.le_of_ble_eq_true rfl) ?_
  intro p e s m args below meth c A Q hx_E hE H locs ls hw hl
  have hx := hx_E.1; have hb := hx_E.2.1; have hown := hx_E.2.2.2.1; have hts := hx_E.2.2.2.2.1
  replace hl : lv_has ls 4 [(0, .ref (ad b)), (1, .int l1)] := hl
  have hN := isB_n6 hB
  unfold f_X0_lookAtCorner at h
  refine lv_aload_n hx hb dX0_lookAtCorner_0 rfl (lv_at hl 0 rfl) ?_
  refine gC_B_0 hx_E hw hB fl_X0_25 dX0_lookAtCorner_1 ?_
  refine lv_iload_n hx hb dX0_lookAtCorner_4 rfl (lv_at hl 1 rfl) ?_
  obtain ⟨v1, k2, h⟩ := it_b h
  refine kV_z (As := [.int l1]) (rest := []) (q := 0) hx_E hw (c_X1_hasCorner l K N hN ad hI  l1 σ k2) mi_X1_hasCorner mv_X1_hasCorner ml_X0_117 (Nat.lt_of_lt_of_le (by decide) hN) rfl rfl rfl ⟨⟨Nat.le_of_ble_eq_true rfl, Nat.le_of_ble_eq_true rfl⟩, rfl, rfl⟩ ⟨Nat.zero_le _, Nat.zero_le _⟩ hl.1 rfl (Nat.le_of_ble_eq_true rfl) dX0_lookAtCorner_5 (fun z3 H locs hw => ?_)
  refine lv_if_ne (tgt := 12) hx hb dX0_lookAtCorner_8 (by decide) (fun c4 => ?_) (fun c4 => ?_)
  · replace h := it_f c4 h
    refine lv_aload_n hx hb dX0_lookAtCorner_12 rfl (lv_at hl 0 rfl) ?_
    refine gC_B_0 hx_E hw hB fl_X0_25 dX0_lookAtCorner_13 ?_
    refine gC_0_2 hx_E hw hN fl_X0_120 dX0_lookAtCorner_16 ?_
    refine lv_iload_n hx hb dX0_lookAtCorner_19 rfl (lv_at hl 1 rfl) ?_
    obtain ⟨g5, h⟩ := it_g h
    refine aC_3 hx_E hw hN g5 dX0_lookAtCorner_20 ?_
    refine lv_aload_n hx hb dX0_lookAtCorner_21 rfl (lv_at hl 0 rfl) ?_
    refine gC_B_2 hx_E hw hB fl_X0_47 dX0_lookAtCorner_22 ?_
    refine lv_land hx hb dX0_lookAtCorner_25 ?_
    obtain ⟨v6, k7, h⟩ := it_b h
    refine kS_i (As := [.long ((gL σ 3 l1.toNatClampNeg) &&& (gL σ b 2))]) (rest := []) hx_E hw (c_J13_bitCount_95d88 l K ((gL σ 3 l1.toNatClampNeg) &&& (gL σ b 2)) k7) mi_J13_bitCount_95d88 sm_J13_bitCount_95d88 ml_X0_107 rfl ⟨⟨Nat.le_of_ble_eq_true rfl, Nat.le_of_ble_eq_true rfl⟩, rfl, rfl⟩ ⟨Nat.zero_le _, Nat.zero_le _⟩ hl.1 rfl (Nat.le_of_ble_eq_true rfl) dX0_lookAtCorner_26 (fun H locs hw => ?_)
    refine lv_istore_n (lv' := [(2, .int v6), (0, .ref (ad b)), (1, .int l1)]) hx hb dX0_lookAtCorner_29 rfl hl (by decide) rfl (fun ls hl => ?_)
    refine lv_aload_n hx hb dX0_lookAtCorner_30 rfl (lv_at hl 1 rfl) ?_
    refine gC_B_0 hx_E hw hB fl_X0_25 dX0_lookAtCorner_31 ?_
    refine gC_0_2 hx_E hw hN fl_X0_120 dX0_lookAtCorner_34 ?_
    refine lv_iload_n hx hb dX0_lookAtCorner_37 rfl (lv_at hl 2 rfl) ?_
    obtain ⟨g8, h⟩ := it_g h
    refine aC_3 hx_E hw hN g8 dX0_lookAtCorner_38 ?_
    refine lv_aload_n hx hb dX0_lookAtCorner_39 rfl (lv_at hl 1 rfl) ?_
    refine gC_B_3 hx_E hw hB fl_X0_50 dX0_lookAtCorner_40 ?_
    refine lv_land hx hb dX0_lookAtCorner_43 ?_
    obtain ⟨v9, k10, h⟩ := it_b h
    refine kS_i (As := [.long ((gL σ 3 l1.toNatClampNeg) &&& (gL σ b 3))]) (rest := []) hx_E hw (c_J13_bitCount_95d88 l K ((gL σ 3 l1.toNatClampNeg) &&& (gL σ b 3)) k10) mi_J13_bitCount_95d88 sm_J13_bitCount_95d88 ml_X0_107 rfl ⟨⟨Nat.le_of_ble_eq_true rfl, Nat.le_of_ble_eq_true rfl⟩, rfl, rfl⟩ ⟨Nat.zero_le _, Nat.zero_le _⟩ hl.1 rfl (Nat.le_of_ble_eq_true rfl) dX0_lookAtCorner_44 (fun H locs hw => ?_)
    refine lv_istore_n (lv' := [(3, .int v9), (2, .int v6), (0, .ref (ad b)), (1, .int l1)]) hx hb dX0_lookAtCorner_47 rfl hl (by decide) rfl (fun ls hl => ?_)
    refine lv_aload_n hx hb dX0_lookAtCorner_48 rfl (lv_at hl 2 rfl) ?_
    refine lv_aload_n hx hb dX0_lookAtCorner_49 rfl (lv_at hl 2 rfl) ?_
    refine gC_B_6 hx_E hw hB fl_X0_32 dX0_lookAtCorner_50 ?_
    refine lv_iload_n hx hb dX0_lookAtCorner_53 rfl (lv_at hl 3 rfl) ?_
    refine lv_iload_n hx hb dX0_lookAtCorner_54 rfl (lv_at hl 1 rfl) ?_
    refine lv_iconst (v := 2) hx hb dX0_lookAtCorner_55 (by decide) ?_
    obtain ⟨φ14, h9, h_φ14⟩ := it_b h
    have hJ13 : ∀ (v12 : Int32), v12 = φ14 → (v12 = 0 ∨ v12 = 1) → ∀ (H : Heap) (locs : List Loc) (ls : Array Slot), PW K N ad (cC K ad) A s.heap σ H locs → lv_has ls 4 [(0, .ref (ad b)), (1, .int l1), (2, .int v6), (3, .int v9)] → W p l e (rmF 2 22) s m args below meth c H locs 0 0 Q (F0 m 73 ls [.int v12, .int l1, .int (gI σ b 6), .ref (ad b)]) := by
      intro v12 e9 z_v12 H locs ls hw hl
      subst e9
      replace h := h_φ14
      obtain ⟨v17, k18, h⟩ := it_b h
      refine kN_i (As := [.int (gI σ b 6), .int l1, .int v12]) (rest := [.ref (ad b)]) hx_E hw (c_X6_with l K (gI σ b 6) l1 v12 k18) mi_X6_with sm_X6_with (hx_E.2.2.2.2.2.2.2.2.1) rfl ⟨⟨Nat.le_of_ble_eq_true rfl, Nat.le_of_ble_eq_true rfl⟩, rfl, rfl⟩ ⟨Nat.zero_le _, Nat.zero_le _⟩ hl.1 rfl (Nat.le_of_ble_eq_true rfl) dX0_lookAtCorner_73 (fun H locs hw => ?_)
      refine pC_B_6 hx_E hw hB fl_X0_32 dX0_lookAtCorner_76 (fun H locs hw => ?_)
      refine lv_aload_n hx hb dX0_lookAtCorner_79 rfl (lv_at hl 0 rfl) ?_
      refine lv_aload_n hx hb dX0_lookAtCorner_80 rfl (lv_at hl 0 rfl) ?_
      refine gC_B_7 hx_E hw hB fl_X0_56 dX0_lookAtCorner_81 ?_
      refine lv_iload_n hx hb dX0_lookAtCorner_84 rfl (lv_at hl 1 rfl) ?_
      refine lv_iload_n hx hb dX0_lookAtCorner_85 rfl (lv_at hl 2 rfl) ?_
      refine lv_iconst (v := 2) hx hb dX0_lookAtCorner_86 (by decide) ?_
      obtain ⟨φ22, h9, h_φ22⟩ := it_b h
      have hJ21 : ∀ (v20 : Int32), v20 = φ22 → (v20 = 0 ∨ v20 = 1) → ∀ (H : Heap) (locs : List Loc) (ls : Array Slot), PW K N ad (cC K ad) A s.heap (sI σ b 6 v17) H locs → lv_has ls 4 [(0, .ref (ad b)), (1, .int l1), (2, .int v6), (3, .int v9)] → W p l e (rmF 2 22) s m args below meth c H locs 0 0 Q (F0 m 95 ls [.int v20, .int l1, .int (gI (sI σ b 6 v17) b 7), .ref (ad b)]) := by
        intro v20 e9 z_v20 H locs ls hw hl
        subst e9
        replace h := h_φ22
        obtain ⟨v23, k24, h⟩ := it_b h
        refine kN_i (As := [.int (gI (sI σ b 6 v17) b 7), .int l1, .int v20]) (rest := [.ref (ad b)]) hx_E hw (c_X6_with l K (gI (sI σ b 6 v17) b 7) l1 v20 k24) mi_X6_with sm_X6_with (hx_E.2.2.2.2.2.2.2.2.1) rfl ⟨⟨Nat.le_of_ble_eq_true rfl, Nat.le_of_ble_eq_true rfl⟩, rfl, rfl⟩ ⟨Nat.zero_le _, Nat.zero_le _⟩ hl.1 rfl (Nat.le_of_ble_eq_true rfl) dX0_lookAtCorner_95 (fun H locs hw => ?_)
        refine pC_B_7 hx_E hw hB fl_X0_56 dX0_lookAtCorner_98 (fun H locs hw => ?_)
        refine lv_aload_n hx hb dX0_lookAtCorner_101 rfl (lv_at hl 0 rfl) ?_
        refine gC_B_1 hx_E hw hB fl_X0_9 dX0_lookAtCorner_102 ?_
        refine lv_iconst (v := 2) hx hb dX0_lookAtCorner_105 (by decide) ?_
        refine lv_aload_n hx hb dX0_lookAtCorner_106 rfl (lv_at hl 0 rfl) ?_
        refine gC_B_1 hx_E hw hB fl_X0_9 dX0_lookAtCorner_107 ?_
        refine lv_iconst (v := 2) hx hb dX0_lookAtCorner_110 (by decide) ?_
        refine acC_R hx_E hw hB (by decide) rfl dX0_lookAtCorner_111 ?_
        refine lv_iload_n hx hb dX0_lookAtCorner_112 rfl (lv_at hl 1 rfl) ?_
        refine lv_iload_n hx hb dX0_lookAtCorner_113 rfl (lv_at hl 2 rfl) ?_
        refine lv_iconst (v := 2) hx hb dX0_lookAtCorner_114 (by decide) ?_
        obtain ⟨φ28, h9, h_φ28⟩ := it_b h
        have hJ27 : ∀ (v26 : Int32), v26 = φ28 → (v26 = 0 ∨ v26 = 1) → ∀ (H : Heap) (locs : List Loc) (ls : Array Slot), PW K N ad (cC K ad) A s.heap (sI (sI σ b 6 v17) b 7 v23) H locs → lv_has ls 4 [(0, .ref (ad b)), (1, .int l1), (2, .int v6), (3, .int v9)] → W p l e (rmF 2 22) s m args below meth c H locs 0 0 Q (F0 m 127 ls [.int v26, .int l1, .int (gI (sI (sI σ b 6 v17) b 7 v23) (b + 1) 2), .int (2 : Int32), .ref (ad (b + 1))]) := by
          intro v26 e9 z_v26 H locs ls hw hl
          subst e9
          replace h := h_φ28
          obtain ⟨v30, k31, h⟩ := it_b h
          refine kN_i (As := [.int (gI (sI (sI σ b 6 v17) b 7 v23) (b + 1) 2), .int l1, .int v26]) (rest := [.int (2 : Int32), .ref (ad (b + 1))]) hx_E hw (c_X6_with l K (gI (sI (sI σ b 6 v17) b 7 v23) (b + 1) 2) l1 v26 k31) mi_X6_with sm_X6_with (hx_E.2.2.2.2.2.2.2.2.1) rfl ⟨⟨Nat.le_of_ble_eq_true rfl, Nat.le_of_ble_eq_true rfl⟩, rfl, rfl⟩ ⟨Nat.zero_le _, Nat.zero_le _⟩ hl.1 rfl (Nat.le_of_ble_eq_true rfl) dX0_lookAtCorner_127 (fun H locs hw => ?_)
          refine scC_R hx_E hw hB (by decide) rfl dX0_lookAtCorner_130 (fun H locs hw => ?_)
          refine lv_aload_n hx hb dX0_lookAtCorner_131 rfl (lv_at hl 0 rfl) ?_
          refine gC_B_1 hx_E hw hB fl_X0_9 dX0_lookAtCorner_132 ?_
          refine lv_iconst (v := 3) hx hb dX0_lookAtCorner_135 (by decide) ?_
          refine lv_aload_n hx hb dX0_lookAtCorner_136 rfl (lv_at hl 0 rfl) ?_
          refine gC_B_1 hx_E hw hB fl_X0_9 dX0_lookAtCorner_137 ?_
          refine lv_iconst (v := 3) hx hb dX0_lookAtCorner_140 (by decide) ?_
          refine acC_R hx_E hw hB (by decide) rfl dX0_lookAtCorner_141 ?_
          refine lv_iload_n hx hb dX0_lookAtCorner_142 rfl (lv_at hl 1 rfl) ?_
          refine lv_iload_n hx hb dX0_lookAtCorner_143 rfl (lv_at hl 2 rfl) ?_
          obtain ⟨φ35, h9, h_φ35⟩ := it_b h
          have hJ34 : ∀ (v33 : Int32), v33 = φ35 → (v33 = 0 ∨ v33 = 1) → ∀ (H : Heap) (locs : List Loc) (ls : Array Slot), PW K N ad (cC K ad) A s.heap (sI (sI (sI σ b 6 v17) b 7 v23) (b + 1) 2 v30) H locs → lv_has ls 4 [(0, .ref (ad b)), (1, .int l1), (2, .int v6), (3, .int v9)] → W p l e (rmF 2 22) s m args below meth c H locs 0 0 Q (F0 m 157 ls [.int v33, .int l1, .int (gI (sI (sI (sI σ b 6 v17) b 7 v23) (b + 1) 2 v30) (b + 1) 3), .int (3 : Int32), .ref (ad (b + 1))]) := by
            intro v33 e9 z_v33 H locs ls hw hl
            subst e9
            replace h := h_φ35
            obtain ⟨v37, k38, h⟩ := it_b h
            refine kN_i (As := [.int (gI (sI (sI (sI σ b 6 v17) b 7 v23) (b + 1) 2 v30) (b + 1) 3), .int l1, .int v33]) (rest := [.int (3 : Int32), .ref (ad (b + 1))]) hx_E hw (c_X6_with l K (gI (sI (sI (sI σ b 6 v17) b 7 v23) (b + 1) 2 v30) (b + 1) 3) l1 v33 k38) mi_X6_with sm_X6_with (hx_E.2.2.2.2.2.2.2.2.1) rfl ⟨⟨Nat.le_of_ble_eq_true rfl, Nat.le_of_ble_eq_true rfl⟩, rfl, rfl⟩ ⟨Nat.zero_le _, Nat.zero_le _⟩ hl.1 rfl (Nat.le_of_ble_eq_true rfl) dX0_lookAtCorner_157 (fun H locs hw => ?_)
            refine scC_R hx_E hw hB (by decide) rfl dX0_lookAtCorner_160 (fun H locs hw => ?_)
            refine lv_aload_n hx hb dX0_lookAtCorner_161 rfl (lv_at hl 0 rfl) ?_
            refine gC_B_1 hx_E hw hB fl_X0_9 dX0_lookAtCorner_162 ?_
            refine lv_iconst (v := 4) hx hb dX0_lookAtCorner_165 (by decide) ?_
            refine lv_aload_n hx hb dX0_lookAtCorner_166 rfl (lv_at hl 0 rfl) ?_
            refine gC_B_1 hx_E hw hB fl_X0_9 dX0_lookAtCorner_167 ?_
            refine lv_iconst (v := 4) hx hb dX0_lookAtCorner_170 (by decide) ?_
            refine acC_R hx_E hw hB (by decide) rfl dX0_lookAtCorner_171 ?_
            refine lv_iload_n hx hb dX0_lookAtCorner_172 rfl (lv_at hl 1 rfl) ?_
            refine lv_iload_n hx hb dX0_lookAtCorner_173 rfl (lv_at hl 2 rfl) ?_
            refine lv_iconst (v := 1) hx hb dX0_lookAtCorner_174 (by decide) ?_
            obtain ⟨φ42, h9, h_φ42⟩ := it_b h
            have hJ41 : ∀ (v40 : Int32), v40 = φ42 → (v40 = 0 ∨ v40 = 1) → ∀ (H : Heap) (locs : List Loc) (ls : Array Slot), PW K N ad (cC K ad) A s.heap (sI (sI (sI (sI σ b 6 v17) b 7 v23) (b + 1) 2 v30) (b + 1) 3 v37) H locs → lv_has ls 4 [] → W p l e (rmF 2 22) s m args below meth c H locs 0 0 Q (F0 m 188 ls [.int v40, .int l1, .int (gI (sI (sI (sI (sI σ b 6 v17) b 7 v23) (b + 1) 2 v30) (b + 1) 3 v37) (b + 1) 4), .int (4 : Int32), .ref (ad (b + 1))]) := by
              intro v40 e9 z_v40 H locs ls hw hl
              subst e9
              replace h := h_φ42
              obtain ⟨v44, k45, h⟩ := it_b h
              refine kN_i (As := [.int (gI (sI (sI (sI (sI σ b 6 v17) b 7 v23) (b + 1) 2 v30) (b + 1) 3 v37) (b + 1) 4), .int l1, .int v40]) (rest := [.int (4 : Int32), .ref (ad (b + 1))]) hx_E hw (c_X6_with l K (gI (sI (sI (sI (sI σ b 6 v17) b 7 v23) (b + 1) 2 v30) (b + 1) 3 v37) (b + 1) 4) l1 v40 k45) mi_X6_with sm_X6_with (hx_E.2.2.2.2.2.2.2.2.1) rfl ⟨⟨Nat.le_of_ble_eq_true rfl, Nat.le_of_ble_eq_true rfl⟩, rfl, rfl⟩ ⟨Nat.zero_le _, Nat.zero_le _⟩ hl.1 rfl (Nat.le_of_ble_eq_true rfl) dX0_lookAtCorner_188 (fun H locs hw => ?_)
              refine scC_R hx_E hw hB (by decide) rfl dX0_lookAtCorner_191 (fun H locs hw => ?_)
              exact hE hw (Option.some.inj h) dX0_lookAtCorner_192
            replace h := h9
            refine lv_icmp_ne (tgt := 187) hx hb dX0_lookAtCorner_175 (by decide) (fun c39 => ?_) (fun c39 => ?_)
            · replace h := it_f c39 h
              refine lv_iconst (v := 0) hx hb dX0_lookAtCorner_187 (by decide) ?_
              have e9 := Option.some.inj h
              subst e9
              exact hJ41 _ rfl (Or.inl rfl) H locs ls hw (lv_sub hl [] rfl)
            · replace h := it_t c39 h
              refine lv_iload_n hx hb dX0_lookAtCorner_178 rfl (lv_at hl 3 rfl) ?_
              refine lv_iconst (v := 1) hx hb dX0_lookAtCorner_179 (by decide) ?_
              refine lv_icmp_ne (tgt := 187) hx hb dX0_lookAtCorner_180 (by decide) (fun c43 => ?_) (fun c43 => ?_)
              · replace h := it_f c43 h
                refine lv_iconst (v := 0) hx hb dX0_lookAtCorner_187 (by decide) ?_
                have e9 := Option.some.inj h
                subst e9
                exact hJ41 _ rfl (Or.inl rfl) H locs ls hw (lv_sub hl [] rfl)
              · replace h := it_t c43 h
                refine lv_iconst (v := 1) hx hb dX0_lookAtCorner_183 (by decide) ?_
                refine lv_goto (tgt := 188) hx hb dX0_lookAtCorner_184 (by decide) ?_
                have e9 := Option.some.inj h
                subst e9
                exact hJ41 _ rfl (Or.inr rfl) H locs ls hw (lv_sub hl [] rfl)
          replace h := h9
          refine lv_if_ne (tgt := 156) hx hb dX0_lookAtCorner_144 (by decide) (fun c32 => ?_) (fun c32 => ?_)
          · replace h := it_f c32 h
            refine lv_iconst (v := 0) hx hb dX0_lookAtCorner_156 (by decide) ?_
            have e9 := Option.some.inj h
            subst e9
            exact hJ34 _ rfl (Or.inl rfl) H locs ls hw (lv_sub hl [0, 1, 2, 3] rfl)
          · replace h := it_t c32 h
            refine lv_iload_n hx hb dX0_lookAtCorner_147 rfl (lv_at hl 3 rfl) ?_
            refine lv_iconst (v := 1) hx hb dX0_lookAtCorner_148 (by decide) ?_
            refine lv_icmp_ne (tgt := 156) hx hb dX0_lookAtCorner_149 (by decide) (fun c36 => ?_) (fun c36 => ?_)
            · replace h := it_f c36 h
              refine lv_iconst (v := 0) hx hb dX0_lookAtCorner_156 (by decide) ?_
              have e9 := Option.some.inj h
              subst e9
              exact hJ34 _ rfl (Or.inl rfl) H locs ls hw (lv_sub hl [0, 1, 2, 3] rfl)
            · replace h := it_t c36 h
              refine lv_iconst (v := 1) hx hb dX0_lookAtCorner_152 (by decide) ?_
              refine lv_goto (tgt := 157) hx hb dX0_lookAtCorner_153 (by decide) ?_
              have e9 := Option.some.inj h
              subst e9
              exact hJ34 _ rfl (Or.inr rfl) H locs ls hw (lv_sub hl [0, 1, 2, 3] rfl)
        replace h := h9
        refine lv_icmp_ne (tgt := 126) hx hb dX0_lookAtCorner_115 (by decide) (fun c25 => ?_) (fun c25 => ?_)
        · replace h := it_f c25 h
          refine lv_iconst (v := 0) hx hb dX0_lookAtCorner_126 (by decide) ?_
          have e9 := Option.some.inj h
          subst e9
          exact hJ27 _ rfl (Or.inl rfl) H locs ls hw (lv_sub hl [0, 1, 2, 3] rfl)
        · replace h := it_t c25 h
          refine lv_iload_n hx hb dX0_lookAtCorner_118 rfl (lv_at hl 3 rfl) ?_
          refine lv_if_le (tgt := 126) hx hb dX0_lookAtCorner_119 (by decide) (fun c29 => ?_) (fun c29 => ?_)
          · replace h := it_t c29 h
            refine lv_iconst (v := 0) hx hb dX0_lookAtCorner_126 (by decide) ?_
            have e9 := Option.some.inj h
            subst e9
            exact hJ27 _ rfl (Or.inl rfl) H locs ls hw (lv_sub hl [0, 1, 2, 3] rfl)
          · replace h := it_f c29 h
            refine lv_iconst (v := 1) hx hb dX0_lookAtCorner_122 (by decide) ?_
            refine lv_goto (tgt := 127) hx hb dX0_lookAtCorner_123 (by decide) ?_
            have e9 := Option.some.inj h
            subst e9
            exact hJ27 _ rfl (Or.inr rfl) H locs ls hw (lv_sub hl [0, 1, 2, 3] rfl)
      replace h := h9
      refine lv_icmp_ne (tgt := 94) hx hb dX0_lookAtCorner_87 (by decide) (fun c19 => ?_) (fun c19 => ?_)
      · replace h := it_f c19 h
        refine lv_iconst (v := 0) hx hb dX0_lookAtCorner_94 (by decide) ?_
        have e9 := Option.some.inj h
        subst e9
        exact hJ21 _ rfl (Or.inl rfl) H locs ls hw (lv_sub hl [0, 1, 2, 3] rfl)
      · replace h := it_t c19 h
        refine lv_iconst (v := 1) hx hb dX0_lookAtCorner_90 (by decide) ?_
        refine lv_goto (tgt := 95) hx hb dX0_lookAtCorner_91 (by decide) ?_
        have e9 := Option.some.inj h
        subst e9
        exact hJ21 _ rfl (Or.inr rfl) H locs ls hw (lv_sub hl [0, 1, 2, 3] rfl)
    replace h := h9
    refine lv_icmp_gt (tgt := 68) hx hb dX0_lookAtCorner_56 (by decide) (fun c11 => ?_) (fun c11 => ?_)
    · replace h := it_t c11 h
      refine lv_iconst (v := 1) hx hb dX0_lookAtCorner_68 (by decide) ?_
      refine lv_goto (tgt := 73) hx hb dX0_lookAtCorner_69 (by decide) ?_
      have e9 := Option.some.inj h
      subst e9
      exact hJ13 _ rfl (Or.inr rfl) H locs ls hw (lv_sub hl [2, 3, 1, 0] rfl)
    · replace h := it_f c11 h
      refine lv_iload_n hx hb dX0_lookAtCorner_59 rfl (lv_at hl 1 rfl) ?_
      refine lv_iconst (v := 1) hx hb dX0_lookAtCorner_60 (by decide) ?_
      refine lv_icmp_ne (tgt := 72) hx hb dX0_lookAtCorner_61 (by decide) (fun c15 => ?_) (fun c15 => ?_)
      · replace h := it_f c15 h
        refine lv_iconst (v := 0) hx hb dX0_lookAtCorner_72 (by decide) ?_
        have e9 := Option.some.inj h
        subst e9
        exact hJ13 _ rfl (Or.inl rfl) H locs ls hw (lv_sub hl [2, 3, 1, 0] rfl)
      · replace h := it_t c15 h
        refine lv_iload_n hx hb dX0_lookAtCorner_64 rfl (lv_at hl 0 rfl) ?_
        refine lv_if_ne (tgt := 72) hx hb dX0_lookAtCorner_65 (by decide) (fun c16 => ?_) (fun c16 => ?_)
        · replace h := it_f c16 h
          refine lv_iconst (v := 0) hx hb dX0_lookAtCorner_72 (by decide) ?_
          have e9 := Option.some.inj h
          subst e9
          exact hJ13 _ rfl (Or.inl rfl) H locs ls hw (lv_sub hl [2, 3, 1, 0] rfl)
        · replace h := it_t c16 h
          refine lv_iconst (v := 1) hx hb dX0_lookAtCorner_68 (by decide) ?_
          refine lv_goto (tgt := 73) hx hb dX0_lookAtCorner_69 (by decide) ?_
          have e9 := Option.some.inj h
          subst e9
          exact hJ13 _ rfl (Or.inr rfl) H locs ls hw (lv_sub hl [2, 3, 1, 0] rfl)
  · replace h := it_t c4 h
    exact hE hw (Option.some.inj h) dX0_lookAtCorner_11
set_option maxHeartbeats 4000000 in
set_option maxRecDepth 100000 in
theorem c_X0_wayOf (l : Launch) (K : vK) (N : Nat) (ad : Nat → Nat) (hI : adInj N ad) (b : Nat) (hB : isB N b) (l1 : Int64) (σ : vSt) {r : Int64} (h : f_X0_wayOf b l1 σ = some r) : MCl l yX0_wayOf (wsY yX0_wayOf cX0_wayOf 11 (some .long)) (rmF 1 0) K N ad (cC K ad) [.ref (ad b), .long l1] σ r σ := by
  refine MCl_of (own := RX0) (plainFor_of_name (by decide)) hI rfl (Nat.le_of_ble_eq_true rfl) ?_
  intro p e s m args below meth c A Q hx_E hE H locs ls hw hl
  have hx := hx_E.1; have hb := hx_E.2.1; have hown := hx_E.2.2.2.1; have hts := hx_E.2.2.2.2.1
  replace hl : lv_has ls 11 [(0, .ref (ad b)), (1, .long l1)] := hl
  have hN := isB_n6 hB
  unfold f_X0_wayOf at h
  refine lv_lload_n hx hb dX0_wayOf_0 rfl (lv_at hl 1 rfl) ?_
  refine lv_aload_n hx hb dX0_wayOf_1 rfl (lv_at hl 0 rfl) ?_
  refine gC_B_2 hx_E hw hB fl_X0_47 dX0_wayOf_2 ?_
  refine lv_land hx hb dX0_wayOf_5 ?_
  obtain ⟨v1, e_v1, h⟩ := it_b h
  refine lt_topl (Option.some.inj e_v1) ?_
  refine lv_lstore_n (lv' := [(3, .long v1), (0, .ref (ad b)), (1, .long l1)]) hx hb dX0_wayOf_6 rfl hl (by decide) rfl (fun ls hl => ?_)
  refine lv_iconst (v := 0) hx hb dX0_wayOf_7 (by decide) ?_
  refine lv_istore (lv' := [(5, .int (0 : Int32)), (3, .long v1), (0, .ref (ad b)), (1, .long l1)]) hx hb dX0_wayOf_8 hl (by decide) rfl (fun ls hl => ?_)
  obtain ⟨φ7, h9, h_φ7⟩ := it_b h
  have hJ6 : ∀ (v4 : Int64), .inr v4 = φ7 → ∀ (H : Heap) (locs : List Loc) (ls : Array Slot), PW K N ad (cC K ad) A s.heap σ H locs → lv_has ls 11 [(3, .long v4)] → W p l e (rmF 1 0) s m args below meth c H locs 0 0 Q (F0 m 87 ls []) := by
    intro v4 e9 H locs ls hw hl
    subst e9
    replace h := h_φ7
    refine lv_lload_n hx hb dX0_wayOf_87 rfl (lv_at hl 0 rfl) ?_
    exact hE hw (Option.some.inj h) rfl dX0_wayOf_88
  have hL5 : ∀ (n9 : Nat) (v2 : Int64) (v3 : Int32), ∀ (H : Heap) (locs : List Loc) (ls : Array Slot), f_X0_wayOf_10 b σ n9 v2 v3 = some φ7 → PW K N ad (cC K ad) A s.heap σ H locs → lv_has ls 11 [(0, .ref (ad b)), (3, .long v2), (5, .int v3)] → W p l e (rmF 1 0) s m args below meth c H locs 0 0 Q (F0 m 10 ls []) := by
    intro n9
    induction n9 with
    | zero => intro v2 v3 H locs ls h hw hl; rw [f_X0_wayOf_10.eq_1] at h; exact it_n h
    | succ n9 ih =>
      intro v2 v3 H locs ls h hw hl
      rw [f_X0_wayOf_10.eq_2] at h
      refine lv_iload hx hb dX0_wayOf_10 (lv_at hl 2 rfl) ?_
      refine lv_bipush (v := 40) hx hb dX0_wayOf_12 (by decide) ?_
      refine lv_icmp_ge (tgt := 87) hx hb dX0_wayOf_14 (by decide) (fun c8 => ?_) (fun c8 => ?_)
      · replace h := it_t c8 h
        have e9 := Option.some.inj h
        subst e9
        exact hJ6 _ rfl  H locs ls hw (lv_sub hl [1] rfl)
      · replace h := it_f c8 h
        refine lv_lload_n hx hb dX0_wayOf_17 rfl (lv_at hl 1 rfl) ?_
        refine lv_lstore (lv' := [(6, .long v2), (0, .ref (ad b)), (3, .long v2), (5, .int v3)]) hx hb dX0_wayOf_18 hl (by decide) rfl (fun ls hl => ?_)
        refine lv_iconst (v := 0) hx hb dX0_wayOf_20 (by decide) ?_
        refine lv_istore (lv' := [(8, .int (0 : Int32)), (6, .long v2), (0, .ref (ad b)), (3, .long v2), (5, .int v3)]) hx hb dX0_wayOf_21 hl (by decide) rfl (fun ls hl => ?_)
        obtain ⟨φ15, h9, h_φ15⟩ := it_b h
        have hJ14 : ∀ (v11 : Int64), v11 = φ15 → ∀ (H : Heap) (locs : List Loc) (ls : Array Slot), PW K N ad (cC K ad) A s.heap σ H locs → lv_has ls 11 [(0, .ref (ad b)), (3, .long v11), (5, .int v3), (6, .long v2)] → W p l e (rmF 1 0) s m args below meth c H locs 0 0 Q (F0 m 72 ls []) := by
          intro v11 e9 H locs ls hw hl
          subst e9
          replace h := h_φ15
          refine lv_lload_n hx hb dX0_wayOf_72 rfl (lv_at hl 1 rfl) ?_
          refine lv_lload hx hb dX0_wayOf_73 (lv_at hl 3 rfl) ?_
          refine W.lcmp hx hb dX0_wayOf_75 ?_
          refine lv_if_ne (tgt := 81) hx hb dX0_wayOf_76 (by decide) (fun c21 => ?_) (fun c21 => ?_)
          · replace h := it_f c21 h
            refine lv_iinc (v := (v3 + 1)) (lv' := [(5, .int (v3 + 1)), (0, .ref (ad b)), (3, .long v11), (6, .long v2)]) hx hb dX0_wayOf_81 hl (k := 2) rfl rfl (by decide) rfl (fun ls hl => ?_)
            refine lv_goto (tgt := 10) hx hb dX0_wayOf_84 (by decide) ?_
            exact ih _ _    H locs ls h hw (lv_sub hl [1, 2, 0] rfl)
          · replace h := it_t c21 h
            refine lv_lload_n hx hb dX0_wayOf_79 rfl (lv_at hl 1 rfl) ?_
            have e9 := Option.some.inj h
            subst e9
            replace h := h_φ7
            exact hE hw (Option.some.inj h) rfl dX0_wayOf_80
        have hL13 : ∀ (n9 : Nat) (v9 : Int64) (v10 : Int32), ∀ (H : Heap) (locs : List Loc) (ls : Array Slot), f_X0_wayOf_23x12 b σ n9 v9 v10 = some φ15 → PW K N ad (cC K ad) A s.heap σ H locs → lv_has ls 11 [(0, .ref (ad b)), (3, .long v9), (5, .int v3), (6, .long v2), (8, .int v10)] → W p l e (rmF 1 0) s m args below meth c H locs 0 0 Q (F0 m 23 ls []) := by
          intro n9
          induction n9 with
          | zero => intro v9 v10 H locs ls h hw hl; rw [f_X0_wayOf_23x12.eq_1] at h; exact it_n h
          | succ n9 ih =>
            intro v9 v10 H locs ls h hw hl
            rw [f_X0_wayOf_23x12.eq_2] at h
            refine lv_iload hx hb dX0_wayOf_23 (lv_at hl 4 rfl) ?_
            refine lv_aload_n hx hb dX0_wayOf_25 rfl (lv_at hl 0 rfl) ?_
            refine gC_B_0 hx_E hw hB fl_X0_25 dX0_wayOf_26 ?_
            refine gC_0_8 hx_E hw hN fl_X0_68 dX0_wayOf_29 ?_
            refine lv_icmp_ge (tgt := 72) hx hb dX0_wayOf_32 (by decide) (fun c16 => ?_) (fun c16 => ?_)
            · replace h := it_t c16 h
              have e9 := Option.some.inj h
              subst e9
              exact hJ14 _ rfl  H locs ls hw (lv_sub hl [0, 1, 2, 3] rfl)
            · replace h := it_f c16 h
              refine lv_aload_n hx hb dX0_wayOf_35 rfl (lv_at hl 0 rfl) ?_
              refine gC_B_0 hx_E hw hB fl_X0_25 dX0_wayOf_36 ?_
              refine gC_0_2 hx_E hw hN fl_X0_120 dX0_wayOf_39 ?_
              refine lv_iload hx hb dX0_wayOf_42 (lv_at hl 4 rfl) ?_
              obtain ⟨g17, h⟩ := it_g h
              refine aC_3 hx_E hw hN g17 dX0_wayOf_44 ?_
              refine lv_aload_n hx hb dX0_wayOf_45 rfl (lv_at hl 0 rfl) ?_
              refine gC_B_2 hx_E hw hB fl_X0_47 dX0_wayOf_46 ?_
              refine lv_land hx hb dX0_wayOf_49 ?_
              obtain ⟨v18, e_v18, h⟩ := it_b h
              refine lt_topl (Option.some.inj e_v18) ?_
              refine lv_lstore (lv' := [(9, .long v18), (0, .ref (ad b)), (3, .long v9), (5, .int v3), (6, .long v2), (8, .int v10)]) hx hb dX0_wayOf_50 hl (by decide) rfl (fun ls hl => ?_)
              refine lv_lload hx hb dX0_wayOf_52 (lv_at hl 0 rfl) ?_
              refine lv_lload_n hx hb dX0_wayOf_54 rfl (lv_at hl 2 rfl) ?_
              refine lv_land hx hb dX0_wayOf_55 ?_
              refine lv_lconst (v := 0) hx hb dX0_wayOf_56 (by decide) ?_
              refine W.lcmp hx hb dX0_wayOf_57 ?_
              refine lv_if_eq (tgt := 66) hx hb dX0_wayOf_58 (by decide) (fun c19 => ?_) (fun c19 => ?_)
              · replace h := it_t c19 h
                refine lv_iinc (v := (v10 + 1)) (lv' := [(8, .int (v10 + 1)), (9, .long v18), (0, .ref (ad b)), (3, .long v9), (5, .int v3), (6, .long v2)]) hx hb dX0_wayOf_66 hl (k := 5) rfl rfl (by decide) rfl (fun ls hl => ?_)
                refine lv_goto (tgt := 23) hx hb dX0_wayOf_69 (by decide) ?_
                exact ih _ _    H locs ls h hw (lv_sub hl [2, 3, 4, 5, 0] rfl)
              · replace h := it_f c19 h
                refine lv_lload_n hx hb dX0_wayOf_61 rfl (lv_at hl 2 rfl) ?_
                refine lv_lload hx hb dX0_wayOf_62 (lv_at hl 0 rfl) ?_
                refine lv_lor hx hb dX0_wayOf_64 ?_
                obtain ⟨v20, e_v20, h⟩ := it_b h
                refine lt_topl (Option.some.inj e_v20) ?_
                refine lv_lstore_n (lv' := [(3, .long v20), (9, .long v18), (0, .ref (ad b)), (5, .int v3), (6, .long v2), (8, .int v10)]) hx hb dX0_wayOf_65 rfl hl (by decide) rfl (fun ls hl => ?_)
                refine lv_iinc (v := (v10 + 1)) (lv' := [(8, .int (v10 + 1)), (3, .long v20), (9, .long v18), (0, .ref (ad b)), (5, .int v3), (6, .long v2)]) hx hb dX0_wayOf_66 hl (k := 5) rfl rfl (by decide) rfl (fun ls hl => ?_)
                refine lv_goto (tgt := 23) hx hb dX0_wayOf_69 (by decide) ?_
                exact ih _ _    H locs ls h hw (lv_sub hl [3, 1, 4, 5, 0] rfl)
        exact hL13 600 _ _   H locs ls h9 hw (lv_sub hl [2, 3, 4, 1, 0] rfl)
  exact hL5 600 _ _   H locs ls h9 hw (lv_sub hl [2, 1, 0] rfl)
set_option maxHeartbeats 4000000 in
set_option maxRecDepth 100000 in
theorem c_X0_isRing (l : Launch) (K : vK) (N : Nat) (ad : Nat → Nat) (hI : adInj N ad) (b : Nat) (hB : isB N b) (l1 : Int64) (σ : vSt) {r : Int32} (h : f_X0_isRing b l1 σ = some r) : MCz l yX0_isRing (wsY yX0_isRing cX0_isRing 5 (some .boolean)) (rmF 1 0) K N ad (cC K ad) [.ref (ad b), .long l1] σ r σ := by
  refine MCz_of (own := RX0) (plainFor_of_name (by decide)) hI rfl (Nat.le_of_ble_eq_true rfl) ?_
  intro p e s m args below meth c A Q hx_E hE H locs ls hw hl
  have hx := hx_E.1; have hb := hx_E.2.1; have hown := hx_E.2.2.2.1; have hts := hx_E.2.2.2.2.1
  replace hl : lv_has ls 5 [(0, .ref (ad b)), (1, .long l1)] := hl
  have hN := isB_n6 hB
  unfold f_X0_isRing at h
  refine lv_iconst (v := 0) hx hb dX0_isRing_0 (by decide) ?_
  refine lv_istore_n (lv' := [(3, .int (0 : Int32)), (0, .ref (ad b)), (1, .long l1)]) hx hb dX0_isRing_1 rfl hl (by decide) rfl (fun ls hl => ?_)
  obtain ⟨φ4, h9, h_φ4⟩ := it_b h
  have hJ3 : ∀ (_u : Unit), .inr () = φ4 → ∀ (H : Heap) (locs : List Loc) (ls : Array Slot), PW K N ad (cC K ad) A s.heap σ H locs → lv_has ls 5 [(1, .long l1)] → W p l e (rmF 1 0) s m args below meth c H locs 0 0 Q (F0 m 60 ls []) := by
    intro _u e9 H locs ls hw hl
    subst e9
    replace h := h_φ4
    refine lv_lload_n hx hb dX0_isRing_60 rfl (lv_at hl 0 rfl) ?_
    refine lv_lconst (v := 0) hx hb dX0_isRing_61 (by decide) ?_
    refine W.lcmp hx hb dX0_isRing_62 ?_
    refine lv_if_eq (tgt := 70) hx hb dX0_isRing_63 (by decide) (fun c13 => ?_) (fun c13 => ?_)
    · replace h := it_t c13 h
      refine lv_iconst (v := 0) hx hb dX0_isRing_70 (by decide) ?_
      exact hE hw (Option.some.inj h) rfl (Or.inl rfl) dX0_isRing_71
    · replace h := it_f c13 h
      refine lv_iconst (v := 1) hx hb dX0_isRing_66 (by decide) ?_
      refine lv_goto (tgt := 71) hx hb dX0_isRing_67 (by decide) ?_
      exact hE hw (Option.some.inj h) rfl (Or.inr rfl) dX0_isRing_71
  have hL2 : ∀ (n9 : Nat) (v1 : Int32), ∀ (H : Heap) (locs : List Loc) (ls : Array Slot), f_X0_isRing_2 b l1 σ n9 v1 = some φ4 → PW K N ad (cC K ad) A s.heap σ H locs → lv_has ls 5 [(0, .ref (ad b)), (1, .long l1), (3, .int v1)] → W p l e (rmF 1 0) s m args below meth c H locs 0 0 Q (F0 m 2 ls []) := by
    intro n9
    induction n9 with
    | zero => intro v1 H locs ls h hw hl; rw [f_X0_isRing_2.eq_1] at h; exact it_n h
    | succ n9 ih =>
      intro v1 H locs ls h hw hl
      rw [f_X0_isRing_2.eq_2] at h
      refine lv_iload_n hx hb dX0_isRing_2 rfl (lv_at hl 2 rfl) ?_
      refine lv_aload_n hx hb dX0_isRing_3 rfl (lv_at hl 0 rfl) ?_
      refine gC_B_0 hx_E hw hB fl_X0_25 dX0_isRing_4 ?_
      refine gC_0_8 hx_E hw hN fl_X0_68 dX0_isRing_7 ?_
      refine lv_icmp_ge (tgt := 60) hx hb dX0_isRing_10 (by decide) (fun c5 => ?_) (fun c5 => ?_)
      · replace h := it_t c5 h
        have e9 := Option.some.inj h
        subst e9
        exact hJ3 () rfl  H locs ls hw (lv_sub hl [1] rfl)
      · replace h := it_f c5 h
        refine lv_aload_n hx hb dX0_isRing_13 rfl (lv_at hl 0 rfl) ?_
        refine gC_B_7 hx_E hw hB fl_X0_56 dX0_isRing_14 ?_
        refine lv_iload_n hx hb dX0_isRing_17 rfl (lv_at hl 2 rfl) ?_
        refine lv_iushr (v := (o_iushr (gI σ b 7) v1)) hx hb dX0_isRing_18 rfl ?_
        refine lv_iconst (v := 1) hx hb dX0_isRing_19 (by decide) ?_
        refine lv_iand hx hb dX0_isRing_20 ?_
        obtain ⟨φ9, h9, h_φ9⟩ := it_b h
        have hJ8 : ∀ (v7 : Int32), v7 = φ9 → (v7 = 0 ∨ v7 = 1) → ∀ (H : Heap) (locs : List Loc) (ls : Array Slot), PW K N ad (cC K ad) A s.heap σ H locs → lv_has ls 5 [(0, .ref (ad b)), (1, .long l1), (3, .int v1)] → W p l e (rmF 1 0) s m args below meth c H locs 0 0 Q (F0 m 29 ls [.int v7]) := by
          intro v7 e9 z_v7 H locs ls hw hl
          subst e9
          replace h := h_φ9
          refine lv_istore (lv' := [(4, .int v7), (0, .ref (ad b)), (1, .long l1), (3, .int v1)]) hx hb dX0_isRing_29 hl (by decide) rfl (fun ls hl => ?_)
          refine lv_aload_n hx hb dX0_isRing_31 rfl (lv_at hl 1 rfl) ?_
          refine gC_B_0 hx_E hw hB fl_X0_25 dX0_isRing_32 ?_
          refine gC_0_2 hx_E hw hN fl_X0_120 dX0_isRing_35 ?_
          refine lv_iload_n hx hb dX0_isRing_38 rfl (lv_at hl 3 rfl) ?_
          obtain ⟨g10, h⟩ := it_g h
          refine aC_3 hx_E hw hN g10 dX0_isRing_39 ?_
          refine lv_lload_n hx hb dX0_isRing_40 rfl (lv_at hl 2 rfl) ?_
          refine lv_land hx hb dX0_isRing_41 ?_
          refine lv_lconst (v := 0) hx hb dX0_isRing_42 (by decide) ?_
          refine W.lcmp hx hb dX0_isRing_43 ?_
          refine lv_if_eq (tgt := 54) hx hb dX0_isRing_44 (by decide) (fun c11 => ?_) (fun c11 => ?_)
          · replace h := it_t c11 h
            refine lv_iinc (v := (v1 + 1)) (lv' := [(3, .int (v1 + 1)), (4, .int v7), (0, .ref (ad b)), (1, .long l1)]) hx hb dX0_isRing_54 hl (k := 3) rfl rfl (by decide) rfl (fun ls hl => ?_)
            refine lv_goto (tgt := 2) hx hb dX0_isRing_57 (by decide) ?_
            exact ih _    H locs ls h hw (lv_sub hl [2, 3, 0] rfl)
          · replace h := it_f c11 h
            refine lv_iload hx hb dX0_isRing_47 (lv_at hl 0 rfl) ?_
            refine lv_if_ne (tgt := 54) hx hb dX0_isRing_49 (by decide) (fun c12 => ?_) (fun c12 => ?_)
            · replace h := it_f c12 h
              refine lv_iinc (v := (v1 + 1)) (lv' := [(3, .int (v1 + 1)), (4, .int v7), (0, .ref (ad b)), (1, .long l1)]) hx hb dX0_isRing_54 hl (k := 3) rfl rfl (by decide) rfl (fun ls hl => ?_)
              refine lv_goto (tgt := 2) hx hb dX0_isRing_57 (by decide) ?_
              exact ih _    H locs ls h hw (lv_sub hl [2, 3, 0] rfl)
            · replace h := it_t c12 h
              refine lv_iconst (v := 0) hx hb dX0_isRing_52 (by decide) ?_
              have e9 := Option.some.inj h
              subst e9
              replace h := h_φ4
              exact hE hw (Option.some.inj h) rfl (Or.inl rfl) dX0_isRing_53
        replace h := h9
        refine lv_if_eq (tgt := 28) hx hb dX0_isRing_21 (by decide) (fun c6 => ?_) (fun c6 => ?_)
        · replace h := it_t c6 h
          refine lv_iconst (v := 0) hx hb dX0_isRing_28 (by decide) ?_
          have e9 := Option.some.inj h
          subst e9
          exact hJ8 _ rfl (Or.inl rfl) H locs ls hw (lv_sub hl [0, 1, 2] rfl)
        · replace h := it_f c6 h
          refine lv_iconst (v := 1) hx hb dX0_isRing_24 (by decide) ?_
          refine lv_goto (tgt := 29) hx hb dX0_isRing_25 (by decide) ?_
          have e9 := Option.some.inj h
          subst e9
          exact hJ8 _ rfl (Or.inr rfl) H locs ls hw (lv_sub hl [0, 1, 2] rfl)
  exact hL2 600 _   H locs ls h9 hw (lv_sub hl [1, 2, 0] rfl)
set_option maxHeartbeats 4000000 in
set_option maxRecDepth 100000 in
theorem c_X0_lookAtWay (l : Launch) (K : vK) (N : Nat) (ad : Nat → Nat) (hI : adInj N ad) (b : Nat) (hB : isB N b) (l1 : Int64) (σ : vSt) {σ' : vSt} (h : f_X0_lookAtWay b l1 σ = some σ') : MCv l yX0_lookAtWay (wsY yX0_lookAtWay cX0_lookAtWay 3 none) (rmF 2 24) K N ad (cC K ad) [.ref (ad b), .long l1] σ σ' := by
  refine MCv_of (own := RX0) (plainFor_of_name (by decide)) hI rfl (Nat.le_of_ble_eq_true rfl) ?_
  intro p e s m args below meth c A Q hx_E hE H locs ls hw hl
  have hx := hx_E.1; have hb := hx_E.2.1; have hown := hx_E.2.2.2.1; have hts := hx_E.2.2.2.2.1
  replace hl : lv_has ls 3 [(0, .ref (ad b)), (1, .long l1)] := hl
  have hN := isB_n6 hB
  unfold f_X0_lookAtWay at h
  refine lv_aload_n hx hb dX0_lookAtWay_0 rfl (lv_at hl 0 rfl) ?_
  refine lv_lload_n hx hb dX0_lookAtWay_1 rfl (lv_at hl 1 rfl) ?_
  obtain ⟨v1, k2, h⟩ := it_b h
  refine kV_z (As := [.long l1]) (rest := []) (q := b) hx_E hw (c_X0_isRing l K N ad hI b hB l1 σ k2) mi_X0_isRing mv_X0_isRing ml_X0_123 (isB_lt hB) (cC_B hB _ _) rfl rfl ⟨⟨Nat.le_of_ble_eq_true rfl, Nat.le_of_ble_eq_true rfl⟩, rfl, rfl⟩ ⟨Nat.zero_le _, Nat.zero_le _⟩ hl.1 rfl (Nat.le_of_ble_eq_true rfl) dX0_lookAtWay_2 (fun z3 H locs hw => ?_)
  refine lv_if_ne (tgt := 9) hx hb dX0_lookAtWay_5 (by decide) (fun c4 => ?_) (fun c4 => ?_)
  · replace h := it_f c4 h
    refine lv_lload_n hx hb dX0_lookAtWay_9 rfl (lv_at hl 1 rfl) ?_
    refine lv_aload_n hx hb dX0_lookAtWay_10 rfl (lv_at hl 0 rfl) ?_
    refine gC_B_2 hx_E hw hB fl_X0_47 dX0_lookAtWay_11 ?_
    refine W.lcmp hx hb dX0_lookAtWay_14 ?_
    refine lv_if_ne (tgt := 33) hx hb dX0_lookAtWay_15 (by decide) (fun c5 => ?_) (fun c5 => ?_)
    · replace h := it_f c5 h
      refine lv_aload_n hx hb dX0_lookAtWay_33 rfl (lv_at hl 0 rfl) ?_
      refine gC_B_8 hx_E hw hB fl_X0_35 dX0_lookAtWay_34 ?_
      refine lv_lconst (v := 0) hx hb dX0_lookAtWay_37 (by decide) ?_
      refine W.lcmp hx hb dX0_lookAtWay_38 ?_
      refine lv_if_ne (tgt := 47) hx hb dX0_lookAtWay_39 (by decide) (fun c6 => ?_) (fun c6 => ?_)
      · replace h := it_f c6 h
        exact hE hw (Option.some.inj h) dX0_lookAtWay_47
      · replace h := it_t c6 h
        refine lv_aload_n hx hb dX0_lookAtWay_42 rfl (lv_at hl 0 rfl) ?_
        refine lv_lload_n hx hb dX0_lookAtWay_43 rfl (lv_at hl 1 rfl) ?_
        refine pC_B_8 hx_E hw hB fl_X0_35 dX0_lookAtWay_44 (fun H locs hw => ?_)
        exact hE hw (Option.some.inj h) dX0_lookAtWay_47
    · replace h := it_t c5 h
      refine lv_aload_n hx hb dX0_lookAtWay_18 rfl (lv_at hl 0 rfl) ?_
      refine gC_B_5 hx_E hw hB fl_X0_53 dX0_lookAtWay_19 ?_
      refine lv_if_ne (tgt := 33) hx hb dX0_lookAtWay_22 (by decide) (fun c7 => ?_) (fun c7 => ?_)
      · replace h := it_f c7 h
        refine lv_aload_n hx hb dX0_lookAtWay_33 rfl (lv_at hl 0 rfl) ?_
        refine gC_B_8 hx_E hw hB fl_X0_35 dX0_lookAtWay_34 ?_
        refine lv_lconst (v := 0) hx hb dX0_lookAtWay_37 (by decide) ?_
        refine W.lcmp hx hb dX0_lookAtWay_38 ?_
        refine lv_if_ne (tgt := 47) hx hb dX0_lookAtWay_39 (by decide) (fun c8 => ?_) (fun c8 => ?_)
        · replace h := it_f c8 h
          exact hE hw (Option.some.inj h) dX0_lookAtWay_47
        · replace h := it_t c8 h
          refine lv_aload_n hx hb dX0_lookAtWay_42 rfl (lv_at hl 0 rfl) ?_
          refine lv_lload_n hx hb dX0_lookAtWay_43 rfl (lv_at hl 1 rfl) ?_
          refine pC_B_8 hx_E hw hB fl_X0_35 dX0_lookAtWay_44 (fun H locs hw => ?_)
          exact hE hw (Option.some.inj h) dX0_lookAtWay_47
      · replace h := it_t c7 h
        refine lv_aload_n hx hb dX0_lookAtWay_25 rfl (lv_at hl 0 rfl) ?_
        refine lv_iconst (v := 1) hx hb dX0_lookAtWay_26 (by decide) ?_
        refine pC_B_9 hx_E hw hB (Or.inr rfl) fl_X0_39 dX0_lookAtWay_27 (fun H locs hw => ?_)
        refine lv_goto (tgt := 47) hx hb dX0_lookAtWay_30 (by decide) ?_
        exact hE hw (Option.some.inj h) dX0_lookAtWay_47
  · replace h := it_t c4 h
    exact hE hw (Option.some.inj h) dX0_lookAtWay_8
set_option maxHeartbeats 4000000 in
set_option maxRecDepth 100000 in
theorem c_X0_lookAtRings (l : Launch) (K : vK) (N : Nat) (ad : Nat → Nat) (hI : adInj N ad) (b : Nat) (hB : isB N b) (σ : vSt) {σ' : vSt} (h : f_X0_lookAtRings b σ = some σ') : MCv l yX0_lookAtRings (wsY yX0_lookAtRings cX0_lookAtRings 6 none) (rmF 3 46) K N ad (cC K ad) [.ref (ad b)] σ σ' := by
  refine MCv_of (own := RX0) (plainFor_of_name (by decide)) hI rfl (Nat.le_of_ble_eq_true rfl) ?_
  intro p e s m args below meth c A Q hx_E hE H locs ls hw hl
  have hx := hx_E.1; have hb := hx_E.2.1; have hown := hx_E.2.2.2.1; have hts := hx_E.2.2.2.2.1
  replace hl : lv_has ls 6 [(0, .ref (ad b))] := hl
  have hN := isB_n6 hB
  unfold f_X0_lookAtRings at h
  refine lv_aload_n hx hb dX0_lookAtRings_0 rfl (lv_at hl 0 rfl) ?_
  refine lv_lconst (v := 0) hx hb dX0_lookAtRings_1 (by decide) ?_
  refine pC_B_8 hx_E hw hB fl_X0_35 dX0_lookAtRings_2 (fun H locs hw => ?_)
  refine lv_aload_n hx hb dX0_lookAtRings_5 rfl (lv_at hl 0 rfl) ?_
  refine lv_iconst (v := 0) hx hb dX0_lookAtRings_6 (by decide) ?_
  refine pC_B_9 hx_E hw hB (Or.inl rfl) fl_X0_39 dX0_lookAtRings_7 (fun H locs hw => ?_)
  refine lv_aload_n hx hb dX0_lookAtRings_10 rfl (lv_at hl 0 rfl) ?_
  refine gC_B_2 hx_E hw hB fl_X0_47 dX0_lookAtRings_11 ?_
  obtain ⟨v1, e_v1, h⟩ := it_b h
  refine lt_topl (Option.some.inj e_v1) ?_
  refine lv_lstore_n (lv' := [(1, .long v1), (0, .ref (ad b))]) hx hb dX0_lookAtRings_14 rfl hl (by decide) rfl (fun ls hl => ?_)
  refine lv_iconst (v := 0) hx hb dX0_lookAtRings_15 (by decide) ?_
  refine lv_istore_n (lv' := [(3, .int (0 : Int32)), (1, .long v1), (0, .ref (ad b))]) hx hb dX0_lookAtRings_16 rfl hl (by decide) rfl (fun ls hl => ?_)
  obtain ⟨σ2, e_σ2, h⟩ := it_b h
  replace hw := PW_cast (Option.some.inj e_σ2) hw
  obtain ⟨φ9, h9, h_φ9⟩ := it_b h
  have hJ8 : ∀ (σ6 : vSt), σ6 = φ9 → ∀ (H : Heap) (locs : List Loc) (ls : Array Slot), PW K N ad (cC K ad) A s.heap σ6 H locs → lv_has ls 6 [] → W p l e (rmF 3 46) s m args below meth c H locs 0 0 Q (F0 m 60 ls []) := by
    intro σ6 e9 H locs ls hw hl
    subst e9
    replace h := h_φ9
    exact hE hw (Option.some.inj h) dX0_lookAtRings_60
  have hL7 : ∀ (n9 : Nat) (v3 : Int64) (v4 : Int32) (σ5 : vSt), ∀ (H : Heap) (locs : List Loc) (ls : Array Slot), f_X0_lookAtRings_17 b n9 v3 v4 σ5 = some φ9 → PW K N ad (cC K ad) A s.heap σ5 H locs → lv_has ls 6 [(0, .ref (ad b)), (1, .long v3), (3, .int v4)] → W p l e (rmF 3 46) s m args below meth c H locs 0 0 Q (F0 m 17 ls []) := by
    intro n9
    induction n9 with
    | zero => intro v3 v4 σ5 H locs ls h hw hl; rw [f_X0_lookAtRings_17.eq_1] at h; exact it_n h
    | succ n9 ih =>
      intro v3 v4 σ5 H locs ls h hw hl
      rw [f_X0_lookAtRings_17.eq_2] at h
      refine lv_iload_n hx hb dX0_lookAtRings_17 rfl (lv_at hl 2 rfl) ?_
      refine lv_bipush (v := 40) hx hb dX0_lookAtRings_18 (by decide) ?_
      refine lv_icmp_ge (tgt := 60) hx hb dX0_lookAtRings_20 (by decide) (fun c10 => ?_) (fun c10 => ?_)
      · replace h := it_t c10 h
        have e9 := Option.some.inj h
        subst e9
        exact hJ8 _ rfl  H locs ls hw (lv_sub hl [] rfl)
      · replace h := it_f c10 h
        refine lv_lload_n hx hb dX0_lookAtRings_23 rfl (lv_at hl 1 rfl) ?_
        refine lv_lconst (v := 0) hx hb dX0_lookAtRings_24 (by decide) ?_
        refine W.lcmp hx hb dX0_lookAtRings_25 ?_
        refine lv_if_eq (tgt := 60) hx hb dX0_lookAtRings_26 (by decide) (fun c11 => ?_) (fun c11 => ?_)
        · replace h := it_t c11 h
          have e9 := Option.some.inj h
          subst e9
          exact hJ8 _ rfl  H locs ls hw (lv_sub hl [] rfl)
        · replace h := it_f c11 h
          refine lv_aload_n hx hb dX0_lookAtRings_29 rfl (lv_at hl 0 rfl) ?_
          refine lv_lload_n hx hb dX0_lookAtRings_30 rfl (lv_at hl 1 rfl) ?_
          refine lv_lload_n hx hb dX0_lookAtRings_31 rfl (lv_at hl 1 rfl) ?_
          refine lv_lneg hx hb dX0_lookAtRings_32 ?_
          refine lv_land hx hb dX0_lookAtRings_33 ?_
          obtain ⟨v12, k13, h⟩ := it_b h
          refine kV_l (As := [.long (v3 &&& (-v3))]) (rest := []) (q := b) hx_E hw (c_X0_wayOf l K N ad hI b hB (v3 &&& (-v3)) σ5 k13) mi_X0_wayOf mv_X0_wayOf ml_X0_89 (isB_lt hB) (cC_B hB _ _) rfl rfl ⟨⟨Nat.le_of_ble_eq_true rfl, Nat.le_of_ble_eq_true rfl⟩, rfl, rfl⟩ ⟨Nat.zero_le _, Nat.zero_le _⟩ hl.1 rfl (Nat.le_of_ble_eq_true rfl) dX0_lookAtRings_34 (fun H locs hw => ?_)
          refine lv_lstore (lv' := [(4, .long v12), (0, .ref (ad b)), (1, .long v3), (3, .int v4)]) hx hb dX0_lookAtRings_37 hl (by decide) rfl (fun ls hl => ?_)
          refine lv_aload_n hx hb dX0_lookAtRings_39 rfl (lv_at hl 1 rfl) ?_
          refine lv_lload hx hb dX0_lookAtRings_40 (lv_at hl 0 rfl) ?_
          obtain ⟨σ14, k15, h⟩ := it_b h
          refine kV_v (As := [.long v12]) (rest := []) (q := b) hx_E hw (c_X0_lookAtWay l K N ad hI b hB v12 σ5 k15) mi_X0_lookAtWay mv_X0_lookAtWay ml_X0_93 (isB_lt hB) (cC_B hB _ _) rfl rfl ⟨⟨Nat.le_of_ble_eq_true rfl, Nat.le_of_ble_eq_true rfl⟩, rfl, rfl⟩ ⟨Nat.zero_le _, Nat.zero_le _⟩ hl.1 rfl (Nat.le_of_ble_eq_true rfl) dX0_lookAtRings_42 (fun H locs hw => ?_)
          refine lv_lload_n hx hb dX0_lookAtRings_45 rfl (lv_at hl 2 rfl) ?_
          refine lv_lload hx hb dX0_lookAtRings_46 (lv_at hl 0 rfl) ?_
          refine lv_ldc2 (v := -1) hx hb hown (hts _ kl_X0_81) dX0_lookAtRings_48 ?_
          refine lv_lxor hx hb dX0_lookAtRings_51 ?_
          refine lv_land hx hb dX0_lookAtRings_52 ?_
          obtain ⟨v16, e_v16, h⟩ := it_b h
          refine lt_topl (Option.some.inj e_v16) ?_
          refine lv_lstore_n (lv' := [(1, .long v16), (4, .long v12), (0, .ref (ad b)), (3, .int v4)]) hx hb dX0_lookAtRings_53 rfl hl (by decide) rfl (fun ls hl => ?_)
          refine lv_iinc (v := (v4 + 1)) (lv' := [(3, .int (v4 + 1)), (1, .long v16), (4, .long v12), (0, .ref (ad b))]) hx hb dX0_lookAtRings_54 hl (k := 3) rfl rfl (by decide) rfl (fun ls hl => ?_)
          refine lv_goto (tgt := 17) hx hb dX0_lookAtRings_57 (by decide) ?_
          exact ih _ _ _   H locs ls h hw (lv_sub hl [3, 1, 0] rfl)
  exact hL7 600 _ _ _   H locs ls h9 hw (lv_sub hl [2, 1, 0] rfl)
