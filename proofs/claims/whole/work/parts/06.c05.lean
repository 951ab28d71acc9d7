set_option maxHeartbeats 4000000 in
set_option maxRecDepth 100000 in
theorem c_X7_keeps (l : Launch) (K : vK) (ad : Nat → Nat) (hI : adInj 12 ad) (σ : vSt) {σ' : vSt} (h : f_X7_keeps σ = some σ') : MCv l yX7_keeps (wsY yX7_keeps cX7_keeps 2 none) (rmF 1 0) K 12 ad (cM K ad) [.ref (ad 0)] σ σ' := by
  refine MCv_of (own := RX7) (plainFor_of_name (by decide)) hI rfl (Nat.le_of_ble_eq_true rfl) ?_
  intro p e s m args below meth c A Q hx_E hE H locs ls hw hl
  have hx := hx_E.1; have hb := hx_E.2.1; have hown := hx_E.2.2.2.1; have hts := hx_E.2.2.2.2.1
  replace hl : lv_has ls 2 [(0, .ref (ad 0))] := hl
  unfold f_X7_keeps at h
  refine lv_aload_n hx hb dX7_keeps_0 rfl (lv_at hl 0 rfl) ?_
  refine gM_0_2 hx_E hw fl_X7_44 dX7_keeps_1 ?_
  refine lv_bipush (v := 8) hx hb dX7_keeps_4 (by decide) ?_
  obtain ⟨φ4, h9, h_φ4⟩ := it_b h
  have hJ3 : ∀ (σ2 : vSt), σ2 = φ4 → ∀ (H : Heap) (locs : List Loc) (ls : Array Slot), PW K 12 ad (cM K ad) A s.heap σ2 H locs → lv_has ls 2 [(0, .ref (ad 0))] → W p l e (rmF 1 0) s m args below meth c H locs 0 0 Q (F0 m 49 ls []) := by
    intro σ2 e9 H locs ls hw hl
    subst e9
    replace h := h_φ4
    refine lv_iconst (v := 0) hx hb dX7_keeps_49 (by decide) ?_
    refine lv_istore_n (lv' := [(1, .int (0 : Int32)), (0, .ref (ad 0))]) hx hb dX7_keeps_50 rfl hl (by decide) rfl (fun ls hl => ?_)
    obtain ⟨φ20, h9, h_φ20⟩ := it_b h
    have hJ19 : ∀ (σ17 : vSt), σ17 = φ20 → ∀ (H : Heap) (locs : List Loc) (ls : Array Slot), PW K 12 ad (cM K ad) A s.heap σ17 H locs → lv_has ls 2 [(0, .ref (ad 0))] → W p l e (rmF 1 0) s m args below meth c H locs 0 0 Q (F0 m 83 ls []) := by
      intro σ17 e9 H locs ls hw hl
      subst e9
      replace h := h_φ20
      refine lv_aload_n hx hb dX7_keeps_83 rfl (lv_at hl 0 rfl) ?_
      refine lv_dup hx hb dX7_keeps_84 rfl ?_
      refine gM_0_2 hx_E hw fl_X7_44 dX7_keeps_85 ?_
      refine lv_iconst (v := 1) hx hb dX7_keeps_88 (by decide) ?_
      refine lv_iadd hx hb dX7_keeps_89 ?_
      refine pM_0_2 hx_E hw fl_X7_44 dX7_keeps_90 (fun H locs hw => ?_)
      exact hE hw (Option.some.inj h) dX7_keeps_93
    have hL18 : ∀ (n9 : Nat) (v15 : Int32) (σ16 : vSt), ∀ (H : Heap) (locs : List Loc) (ls : Array Slot), f_X7_keeps_51  n9 v15 σ16 = some φ20 → PW K 12 ad (cM K ad) A s.heap σ16 H locs → lv_has ls 2 [(0, .ref (ad 0)), (1, .int v15)] → W p l e (rmF 1 0) s m args below meth c H locs 0 0 Q (F0 m 51 ls []) := by
      intro n9
      induction n9 with
      | zero => intro v15 σ16 H locs ls h hw hl; rw [f_X7_keeps_51.eq_1] at h; exact it_n h
      | succ n9 ih =>
        intro v15 σ16 H locs ls h hw hl
        rw [f_X7_keeps_51.eq_2] at h
        refine lv_iload_n hx hb dX7_keeps_51 rfl (lv_at hl 1 rfl) ?_
        refine lv_bipush (v := 66) hx hb dX7_keeps_52 (by decide) ?_
        refine lv_icmp_ge (tgt := 83) hx hb dX7_keeps_54 (by decide) (fun c21 => ?_) (fun c21 => ?_)
        · replace h := it_t c21 h
          have e9 := Option.some.inj h
          subst e9
          exact hJ19 _ rfl  H locs ls hw (lv_sub hl [0] rfl)
        · replace h := it_f c21 h
          refine lv_aload_n hx hb dX7_keeps_57 rfl (lv_at hl 0 rfl) ?_
          refine gM_0_1 hx_E hw fl_X7_13 dX7_keeps_58 ?_
          refine lv_bipush (v := 66) hx hb dX7_keeps_61 (by decide) ?_
          refine lv_aload_n hx hb dX7_keeps_63 rfl (lv_at hl 0 rfl) ?_
          refine gM_0_2 hx_E hw fl_X7_44 dX7_keeps_64 ?_
          refine lv_imul hx hb dX7_keeps_67 ?_
          refine lv_iload_n hx hb dX7_keeps_68 rfl (lv_at hl 1 rfl) ?_
          refine lv_iadd hx hb dX7_keeps_69 ?_
          refine lv_aload_n hx hb dX7_keeps_70 rfl (lv_at hl 0 rfl) ?_
          refine gM_0_0 hx_E hw fl_X7_7 dX7_keeps_71 ?_
          refine lv_iload_n hx hb dX7_keeps_74 rfl (lv_at hl 1 rfl) ?_
          obtain ⟨g22, h⟩ := it_g h
          refine aM_1 hx_E hw g22 dX7_keeps_75 ?_
          obtain ⟨g23, h⟩ := it_g h
          refine sM_2 hx_E hw g23 dX7_keeps_76 (fun H locs hw => ?_)
          refine lv_iinc (v := (v15 + 1)) (lv' := [(1, .int (v15 + 1)), (0, .ref (ad 0))]) hx hb dX7_keeps_77 hl (k := 1) rfl rfl (by decide) rfl (fun ls hl => ?_)
          refine lv_goto (tgt := 51) hx hb dX7_keeps_80 (by decide) ?_
          exact ih _ _  H locs ls h hw (lv_sub hl [1, 0] rfl)
    exact hL18 600 _ _  H locs ls h9 hw (lv_sub hl [1, 0] rfl)
  replace h := h9
  refine lv_icmp_ne (tgt := 49) hx hb dX7_keeps_6 (by decide) (fun c1 => ?_) (fun c1 => ?_)
  · replace h := it_f c1 h
    have e9 := Option.some.inj h
    subst e9
    exact hJ3 _ rfl  H locs ls hw (lv_sub hl [0] rfl)
  · replace h := it_t c1 h
    refine lv_iconst (v := 0) hx hb dX7_keeps_9 (by decide) ?_
    refine lv_istore_n (lv' := [(1, .int (0 : Int32)), (0, .ref (ad 0))]) hx hb dX7_keeps_10 rfl hl (by decide) rfl (fun ls hl => ?_)
    obtain ⟨φ11, h9, h_φ11⟩ := it_b h
    have hJ10 : ∀ (σ7 : vSt), σ7 = φ11 → ∀ (H : Heap) (locs : List Loc) (ls : Array Slot), PW K 12 ad (cM K ad) A s.heap σ7 H locs → lv_has ls 2 [(0, .ref (ad 0))] → W p l e (rmF 1 0) s m args below meth c H locs 0 0 Q (F0 m 39 ls []) := by
      intro σ7 e9 H locs ls hw hl
      subst e9
      replace h := h_φ11
      refine lv_aload_n hx hb dX7_keeps_39 rfl (lv_at hl 0 rfl) ?_
      refine lv_dup hx hb dX7_keeps_40 rfl ?_
      refine gM_0_2 hx_E hw fl_X7_44 dX7_keeps_41 ?_
      refine lv_iconst (v := 1) hx hb dX7_keeps_44 (by decide) ?_
      refine lv_isub hx hb dX7_keeps_45 ?_
      refine pM_0_2 hx_E hw fl_X7_44 dX7_keeps_46 (fun H locs hw => ?_)
      have e9 := Option.some.inj h
      subst e9
      exact hJ3 _ rfl  H locs ls hw (lv_sub hl [0] rfl)
    have hL9 : ∀ (n9 : Nat) (v5 : Int32) (σ6 : vSt), ∀ (H : Heap) (locs : List Loc) (ls : Array Slot), f_X7_keeps_11x8  n9 v5 σ6 = some φ11 → PW K 12 ad (cM K ad) A s.heap σ6 H locs → lv_has ls 2 [(0, .ref (ad 0)), (1, .int v5)] → W p l e (rmF 1 0) s m args below meth c H locs 0 0 Q (F0 m 11 ls []) := by
      intro n9
      induction n9 with
      | zero => intro v5 σ6 H locs ls h hw hl; rw [f_X7_keeps_11x8.eq_1] at h; exact it_n h
      | succ n9 ih =>
        intro v5 σ6 H locs ls h hw hl
        rw [f_X7_keeps_11x8.eq_2] at h
        refine lv_iload_n hx hb dX7_keeps_11 rfl (lv_at hl 1 rfl) ?_
        refine lv_sipush (v := 462) hx hb dX7_keeps_12 (by decide) ?_
        refine lv_icmp_ge (tgt := 39) hx hb dX7_keeps_15 (by decide) (fun c12 => ?_) (fun c12 => ?_)
        · replace h := it_t c12 h
          have e9 := Option.some.inj h
          subst e9
          exact hJ10 _ rfl  H locs ls hw (lv_sub hl [0] rfl)
        · replace h := it_f c12 h
          refine lv_aload_n hx hb dX7_keeps_18 rfl (lv_at hl 0 rfl) ?_
          refine gM_0_1 hx_E hw fl_X7_13 dX7_keeps_19 ?_
          refine lv_iload_n hx hb dX7_keeps_22 rfl (lv_at hl 1 rfl) ?_
          refine lv_aload_n hx hb dX7_keeps_23 rfl (lv_at hl 0 rfl) ?_
          refine gM_0_1 hx_E hw fl_X7_13 dX7_keeps_24 ?_
          refine lv_iload_n hx hb dX7_keeps_27 rfl (lv_at hl 1 rfl) ?_
          refine lv_bipush (v := 66) hx hb dX7_keeps_28 (by decide) ?_
          refine lv_iadd hx hb dX7_keeps_30 ?_
          obtain ⟨g13, h⟩ := it_g h
          refine aM_2 hx_E hw g13 dX7_keeps_31 ?_
          obtain ⟨g14, h⟩ := it_g h
          refine sM_2 hx_E hw g14 dX7_keeps_32 (fun H locs hw => ?_)
          refine lv_iinc (v := (v5 + 1)) (lv' := [(1, .int (v5 + 1)), (0, .ref (ad 0))]) hx hb dX7_keeps_33 hl (k := 1) rfl rfl (by decide) rfl (fun ls hl => ?_)
          refine lv_goto (tgt := 11) hx hb dX7_keeps_36 (by decide) ?_
          exact ih _ _  H locs ls h hw (lv_sub hl [1, 0] rfl)
    exact hL9 600 _ _  H locs ls h9 hw (lv_sub hl [1, 0] rfl)
set_option maxHeartbeats 4000000 in
set_option maxRecDepth 100000 in
theorem c_X7_undo (l : Launch) (K : vK) (ad : Nat → Nat) (hI : adInj 12 ad) (σ : vSt) {r : Int32} {σ' : vSt} (h : f_X7_undo σ = some (r, σ')) : MCi l yX7_undo (wsY yX7_undo cX7_undo 2 (some .int)) (rmF 1 0) K 12 ad (cM K ad) [.ref (ad 0)] σ r σ' := by
  refine MCi_of (own := RX7) (plainFor_of_name (by decide)) hI rfl (Nat.le_of_ble_eq_true rfl) ?_
  intro p e s m args below meth c A Q hx_E hE H locs ls hw hl
  have hx := hx_E.1; have hb := hx_E.2.1; have hown := hx_E.2.2.2.1; have hts := hx_E.2.2.2.2.1
  replace hl : lv_has ls 2 [(0, .ref (ad 0))] := hl
  unfold f_X7_undo at h
  refine lv_aload_n hx hb dX7_undo_0 rfl (lv_at hl 0 rfl) ?_
  refine gM_0_2 hx_E hw fl_X7_44 dX7_undo_1 ?_
  refine lv_if_ne (tgt := 10) hx hb dX7_undo_4 (by decide) (fun c1 => ?_) (fun c1 => ?_)
  · replace h := it_f c1 h
    refine lv_aload_n hx hb dX7_undo_10 rfl (lv_at hl 0 rfl) ?_
    refine lv_dup hx hb dX7_undo_11 rfl ?_
    refine gM_0_2 hx_E hw fl_X7_44 dX7_undo_12 ?_
    refine lv_iconst (v := 1) hx hb dX7_undo_15 (by decide) ?_
    refine lv_isub hx hb dX7_undo_16 ?_
    refine pM_0_2 hx_E hw fl_X7_44 dX7_undo_17 (fun H locs hw => ?_)
    refine lv_iconst (v := 0) hx hb dX7_undo_20 (by decide) ?_
    refine lv_istore_n (lv' := [(1, .int (0 : Int32)), (0, .ref (ad 0))]) hx hb dX7_undo_21 rfl hl (by decide) rfl (fun ls hl => ?_)
    obtain ⟨σ2, e_σ2, h⟩ := it_b h
    replace hw := PW_cast (Option.some.inj e_σ2) hw
    obtain ⟨φ8, h9, h_φ8⟩ := it_b h
    have hJ7 : ∀ (σ5 : vSt), σ5 = φ8 → ∀ (H : Heap) (locs : List Loc) (ls : Array Slot), PW K 12 ad (cM K ad) A s.heap σ5 H locs → lv_has ls 2 [(0, .ref (ad 0))] → W p l e (rmF 1 0) s m args below meth c H locs 0 0 Q (F0 m 54 ls []) := by
      intro σ5 e9 H locs ls hw hl
      subst e9
      replace h := h_φ8
      refine lv_aload_n hx hb dX7_undo_54 rfl (lv_at hl 0 rfl) ?_
      refine gM_0_2 hx_E hw fl_X7_44 dX7_undo_55 ?_
      exact hE hw (congrArg Prod.fst (Option.some.inj h)) (congrArg Prod.snd (Option.some.inj h)) dX7_undo_58
    have hL6 : ∀ (n9 : Nat) (v3 : Int32) (σ4 : vSt), ∀ (H : Heap) (locs : List Loc) (ls : Array Slot), f_X7_undo_22  n9 v3 σ4 = some φ8 → PW K 12 ad (cM K ad) A s.heap σ4 H locs → lv_has ls 2 [(0, .ref (ad 0)), (1, .int v3)] → W p l e (rmF 1 0) s m args below meth c H locs 0 0 Q (F0 m 22 ls []) := by
      intro n9
      induction n9 with
      | zero => intro v3 σ4 H locs ls h hw hl; rw [f_X7_undo_22.eq_1] at h; exact it_n h
      | succ n9 ih =>
        intro v3 σ4 H locs ls h hw hl
        rw [f_X7_undo_22.eq_2] at h
        refine lv_iload_n hx hb dX7_undo_22 rfl (lv_at hl 1 rfl) ?_
        refine lv_bipush (v := 66) hx hb dX7_undo_23 (by decide) ?_
        refine lv_icmp_ge (tgt := 54) hx hb dX7_undo_25 (by decide) (fun c9 => ?_) (fun c9 => ?_)
        · replace h := it_t c9 h
          have e9 := Option.some.inj h
          subst e9
          exact hJ7 _ rfl  H locs ls hw (lv_sub hl [0] rfl)
        · replace h := it_f c9 h
          refine lv_aload_n hx hb dX7_undo_28 rfl (lv_at hl 0 rfl) ?_
          refine gM_0_0 hx_E hw fl_X7_7 dX7_undo_29 ?_
          refine lv_iload_n hx hb dX7_undo_32 rfl (lv_at hl 1 rfl) ?_
          refine lv_aload_n hx hb dX7_undo_33 rfl (lv_at hl 0 rfl) ?_
          refine gM_0_1 hx_E hw fl_X7_13 dX7_undo_34 ?_
          refine lv_bipush (v := 66) hx hb dX7_undo_37 (by decide) ?_
          refine lv_aload_n hx hb dX7_undo_39 rfl (lv_at hl 0 rfl) ?_
          refine gM_0_2 hx_E hw fl_X7_44 dX7_undo_40 ?_
          refine lv_imul hx hb dX7_undo_43 ?_
          refine lv_iload_n hx hb dX7_undo_44 rfl (lv_at hl 1 rfl) ?_
          refine lv_iadd hx hb dX7_undo_45 ?_
          obtain ⟨g10, h⟩ := it_g h
          refine aM_2 hx_E hw g10 dX7_undo_46 ?_
          obtain ⟨g11, h⟩ := it_g h
          refine sM_1 hx_E hw g11 dX7_undo_47 (fun H locs hw => ?_)
          refine lv_iinc (v := (v3 + 1)) (lv' := [(1, .int (v3 + 1)), (0, .ref (ad 0))]) hx hb dX7_undo_48 hl (k := 1) rfl rfl (by decide) rfl (fun ls hl => ?_)
          refine lv_goto (tgt := 22) hx hb dX7_undo_51 (by decide) ?_
          exact ih _ _  H locs ls h hw (lv_sub hl [1, 0] rfl)
    exact hL6 600 _ _  H locs ls h9 hw (lv_sub hl [1, 0] rfl)
  · replace h := it_t c1 h
    refine lv_bipush (v := -3) hx hb dX7_undo_7 (by decide) ?_
    exact hE hw (congrArg Prod.fst (Option.some.inj h)) (congrArg Prod.snd (Option.some.inj h)) dX7_undo_9
set_option maxHeartbeats 4000000 in
set_option maxRecDepth 100000 in
theorem c_X7_cells (l : Launch) (K : vK) (ad : Nat → Nat) (hI : adInj 12 ad) (σ : vSt) {r : Int32} (h : f_X7_cells σ = some r) : MCi l yX7_cells (wsY yX7_cells cX7_cells 1 (some .int)) (rmF 1 0) K 12 ad (cM K ad) [.ref (ad 0)] σ r σ := by
  refine MCi_of (own := RX7) (plainFor_of_name (by decide)) hI rfl (Nat.le_of_ble_eq_true rfl) ?_
  intro p e s m args below meth c A Q hx_E hE H locs ls hw hl
  have hx := hx_E.1; have hb := hx_E.2.1; have hown := hx_E.2.2.2.1; have hts := hx_E.2.2.2.2.1
  replace hl : lv_has ls 1 [(0, .ref (ad 0))] := hl
  unfold f_X7_cells at h
  refine lv_aload_n hx hb dX7_cells_0 rfl (lv_at hl 0 rfl) ?_
  refine gM_0_0 hx_E hw fl_X7_7 dX7_cells_1 ?_
  refine lv_iconst (v := 0) hx hb dX7_cells_4 (by decide) ?_
  refine acM_1 hx_E hw (by decide) rfl dX7_cells_5 ?_
  refine lv_aload_n hx hb dX7_cells_6 rfl (lv_at hl 0 rfl) ?_
  refine gM_0_0 hx_E hw fl_X7_7 dX7_cells_7 ?_
  refine lv_iconst (v := 1) hx hb dX7_cells_10 (by decide) ?_
  refine acM_1 hx_E hw (by decide) rfl dX7_cells_11 ?_
  refine lv_imul hx hb dX7_cells_12 ?_
  exact hE hw (Option.some.inj h) rfl dX7_cells_13
set_option maxHeartbeats 4000000 in
set_option maxRecDepth 100000 in
theorem c_X7_corners (l : Launch) (K : vK) (ad : Nat → Nat) (hI : adInj 12 ad) (σ : vSt) {r : Int32} (h : f_X7_corners σ = some r) : MCi l yX7_corners (wsY yX7_corners cX7_corners 1 (some .int)) (rmF 1 0) K 12 ad (cM K ad) [.ref (ad 0)] σ r σ := by
  refine MCi_of (own := RX7) (plainFor_of_name (by decide)) hI rfl (Nat.le_of_ble_eq_true rfl) ?_
  intro p e s m args below meth c A Q hx_E hE H locs ls hw hl
  have hx := hx_E.1; have hb := hx_E.2.1; have hown := hx_E.2.2.2.1; have hts := hx_E.2.2.2.2.1
  replace hl : lv_has ls 1 [(0, .ref (ad 0))] := hl
  unfold f_X7_corners at h
  refine lv_aload_n hx hb dX7_corners_0 rfl (lv_at hl 0 rfl) ?_
  refine gM_0_0 hx_E hw fl_X7_7 dX7_corners_1 ?_
  refine lv_iconst (v := 0) hx hb dX7_corners_4 (by decide) ?_
  refine acM_1 hx_E hw (by decide) rfl dX7_corners_5 ?_
  refine lv_iconst (v := 1) hx hb dX7_corners_6 (by decide) ?_
  refine lv_iadd hx hb dX7_corners_7 ?_
  refine lv_aload_n hx hb dX7_corners_8 rfl (lv_at hl 0 rfl) ?_
  refine gM_0_0 hx_E hw fl_X7_7 dX7_corners_9 ?_
  refine lv_iconst (v := 1) hx hb dX7_corners_12 (by decide) ?_
  refine acM_1 hx_E hw (by decide) rfl dX7_corners_13 ?_
  refine lv_iconst (v := 1) hx hb dX7_corners_14 (by decide) ?_
  refine lv_iadd hx hb dX7_corners_15 ?_
  refine lv_imul hx hb dX7_corners_16 ?_
  exact hE hw (Option.some.inj h) rfl dX7_corners_17
set_option maxHeartbeats 4000000 in
set_option maxRecDepth 100000 in
theorem c_X7_vertical (l : Launch) (K : vK) (ad : Nat → Nat) (hI : adInj 12 ad) (σ : vSt) {r : Int32} (h : f_X7_vertical σ = some r) : MCi l yX7_vertical (wsY yX7_vertical cX7_vertical 1 (some .int)) (rmF 1 0) K 12 ad (cM K ad) [.ref (ad 0)] σ r σ := by
  refine MCi_of (own := RX7) (plainFor_of_name (by decide)) hI rfl (Nat.le_of_ble_eq_true rfl) ?_
  intro p e s m args below meth c A Q hx_E hE H locs ls hw hl
  have hx := hx_E.1; have hb := hx_E.2.1; have hown := hx_E.2.2.2.1; have hts := hx_E.2.2.2.2.1
  replace hl : lv_has ls 1 [(0, .ref (ad 0))] := hl
  unfold f_X7_vertical at h
  refine lv_aload_n hx hb dX7_vertical_0 rfl (lv_at hl 0 rfl) ?_
  refine gM_0_0 hx_E hw fl_X7_7 dX7_vertical_1 ?_
  refine lv_iconst (v := 1) hx hb dX7_vertical_4 (by decide) ?_
  refine acM_1 hx_E hw (by decide) rfl dX7_vertical_5 ?_
  refine lv_iconst (v := 1) hx hb dX7_vertical_6 (by decide) ?_
  refine lv_iadd hx hb dX7_vertical_7 ?_
  refine lv_aload_n hx hb dX7_vertical_8 rfl (lv_at hl 0 rfl) ?_
  refine gM_0_0 hx_E hw fl_X7_7 dX7_vertical_9 ?_
  refine lv_iconst (v := 0) hx hb dX7_vertical_12 (by decide) ?_
  refine acM_1 hx_E hw (by decide) rfl dX7_vertical_13 ?_
  refine lv_imul hx hb dX7_vertical_14 ?_
  exact hE hw (Option.some.inj h) rfl dX7_vertical_15
set_option maxHeartbeats 4000000 in
set_option maxRecDepth 100000 in
theorem c_X7_edges (l : Launch) (K : vK) (ad : Nat → Nat) (hI : adInj 12 ad) (σ : vSt) {r : Int32} (h : f_X7_edges σ = some r) : MCi l yX7_edges (wsY yX7_edges cX7_edges 1 (some .int)) (rmF 2 20) K 12 ad (cM K ad) [.ref (ad 0)] σ r σ := by
  refine MCi_of (own := RX7) (plainFor_of_name (by decide)) hI rfl (Nat.le_of_ble_eq_true rfl) ?_
  intro p e s m args below meth c A Q hx_E hE H locs ls hw hl
  have hx := hx_E.1; have hb := hx_E.2.1; have hown := hx_E.2.2.2.1; have hts := hx_E.2.2.2.2.1
  replace hl : lv_has ls 1 [(0, .ref (ad 0))] := hl
  unfold f_X7_edges at h
  refine lv_aload_n hx hb dX7_edges_0 rfl (lv_at hl 0 rfl) ?_
  obtain ⟨v1, k2, h⟩ := it_b h
  refine kV_i (As := []) (rest := []) (q := 0) hx_E hw (c_X7_vertical l K ad hI   σ k2) mi_X7_vertical mv_X7_vertical ml_X7_48 (by decide) rfl rfl rfl ⟨⟨Nat.le_of_ble_eq_true rfl, Nat.le_of_ble_eq_true rfl⟩, rfl, rfl⟩ ⟨Nat.zero_le _, Nat.zero_le _⟩ hl.1 rfl (Nat.le_of_ble_eq_true rfl) dX7_edges_1 (fun H locs hw => ?_)
  refine lv_aload_n hx hb dX7_edges_4 rfl (lv_at hl 0 rfl) ?_
  refine gM_0_0 hx_E hw fl_X7_7 dX7_edges_5 ?_
  refine lv_iconst (v := 1) hx hb dX7_edges_8 (by decide) ?_
  refine acM_1 hx_E hw (by decide) rfl dX7_edges_9 ?_
  refine lv_aload_n hx hb dX7_edges_10 rfl (lv_at hl 0 rfl) ?_
  refine gM_0_0 hx_E hw fl_X7_7 dX7_edges_11 ?_
  refine lv_iconst (v := 0) hx hb dX7_edges_14 (by decide) ?_
  refine acM_1 hx_E hw (by decide) rfl dX7_edges_15 ?_
  refine lv_iconst (v := 1) hx hb dX7_edges_16 (by decide) ?_
  refine lv_iadd hx hb dX7_edges_17 ?_
  refine lv_imul hx hb dX7_edges_18 ?_
  refine lv_iadd hx hb dX7_edges_19 ?_
  exact hE hw (Option.some.inj h) rfl dX7_edges_20
set_option maxHeartbeats 4000000 in
set_option maxRecDepth 100000 in
theorem c_X7_aroundCell (l : Launch) (K : vK) (ad : Nat → Nat) (hI : adInj 12 ad) (l1 : Int32) (l2 : Int32) (σ : vSt) {r : Int32} (h : f_X7_aroundCell l1 l2 σ = some r) : MCi l yX7_aroundCell (wsY yX7_aroundCell cX7_aroundCell 5 (some .int)) (rmF 2 20) K 12 ad (cM K ad) [.ref (ad 0), .int l1, .int l2] σ r σ := by
  refine MCi_of (own := RX7) (plainFor_of_name (by decide)) hI rfl (Nat.le_of_ble_eq_true rfl) ?_
  intro p e s m args below meth c A Q hx_E hE H locs ls hw hl
  have hx := hx_E.1; have hb := hx_E.2.1; have hown := hx_E.2.2.2.1; have hts := hx_E.2.2.2.2.1
  replace hl : lv_has ls 5 [(0, .ref (ad 0)), (1, .int l1), (2, .int l2)] := hl
  unfold f_X7_aroundCell at h
  refine lv_iload_n hx hb dX7_aroundCell_0 rfl (lv_at hl 1 rfl) ?_
  refine lv_aload_n hx hb dX7_aroundCell_1 rfl (lv_at hl 0 rfl) ?_
  refine gM_0_0 hx_E hw fl_X7_7 dX7_aroundCell_2 ?_
  refine lv_iconst (v := 0) hx hb dX7_aroundCell_5 (by decide) ?_
  refine acM_1 hx_E hw (by decide) rfl dX7_aroundCell_6 ?_
  obtain ⟨g1, h⟩ := it_g h
  refine lv_idiv hx hb dX7_aroundCell_7 g1 ?_
  obtain ⟨v2, e_v2, h⟩ := it_b h
  refine lt_topi (Option.some.inj e_v2) ?_
  refine lv_istore_n (lv' := [(3, .int v2), (0, .ref (ad 0)), (1, .int l1), (2, .int l2)]) hx hb dX7_aroundCell_8 rfl hl (by decide) rfl (fun ls hl => ?_)
  refine lv_iload_n hx hb dX7_aroundCell_9 rfl (lv_at hl 2 rfl) ?_
  refine lv_aload_n hx hb dX7_aroundCell_10 rfl (lv_at hl 1 rfl) ?_
  refine gM_0_0 hx_E hw fl_X7_7 dX7_aroundCell_11 ?_
  refine lv_iconst (v := 0) hx hb dX7_aroundCell_14 (by decide) ?_
  refine acM_1 hx_E hw (by decide) rfl dX7_aroundCell_15 ?_
  obtain ⟨g3, h⟩ := it_g h
  refine lv_irem hx hb dX7_aroundCell_16 g3 ?_
  obtain ⟨v4, e_v4, h⟩ := it_b h
  refine lt_topi (Option.some.inj e_v4) ?_
  refine lv_istore (lv' := [(4, .int v4), (3, .int v2), (0, .ref (ad 0)), (1, .int l1), (2, .int l2)]) hx hb dX7_aroundCell_17 hl (by decide) rfl (fun ls hl => ?_)
  refine lv_iload_n hx hb dX7_aroundCell_19 rfl (lv_at hl 4 rfl) ?_
  refine lv_iconst (v := 2) hx hb dX7_aroundCell_20 (by decide) ?_
  refine lv_icmp_ge (tgt := 40) hx hb dX7_aroundCell_21 (by decide) (fun c5 => ?_) (fun c5 => ?_)
  · replace h := it_t c5 h
    refine lv_aload_n hx hb dX7_aroundCell_40 rfl (lv_at hl 2 rfl) ?_
    obtain ⟨v6, k7, h⟩ := it_b h
    refine kV_i (As := []) (rest := []) (q := 0) hx_E hw (c_X7_vertical l K ad hI   σ k7) mi_X7_vertical mv_X7_vertical ml_X7_48 (by decide) rfl rfl rfl ⟨⟨Nat.le_of_ble_eq_true rfl, Nat.le_of_ble_eq_true rfl⟩, rfl, rfl⟩ ⟨Nat.zero_le _, Nat.zero_le _⟩ hl.1 rfl (Nat.le_of_ble_eq_true rfl) dX7_aroundCell_41 (fun H locs hw => ?_)
    refine lv_iload_n hx hb dX7_aroundCell_44 rfl (lv_at hl 1 rfl) ?_
    refine lv_aload_n hx hb dX7_aroundCell_45 rfl (lv_at hl 2 rfl) ?_
    refine gM_0_0 hx_E hw fl_X7_7 dX7_aroundCell_46 ?_
    refine lv_iconst (v := 0) hx hb dX7_aroundCell_49 (by decide) ?_
    refine acM_1 hx_E hw (by decide) rfl dX7_aroundCell_50 ?_
    refine lv_iconst (v := 1) hx hb dX7_aroundCell_51 (by decide) ?_
    refine lv_iadd hx hb dX7_aroundCell_52 ?_
    refine lv_imul hx hb dX7_aroundCell_53 ?_
    refine lv_iadd hx hb dX7_aroundCell_54 ?_
    refine lv_iload hx hb dX7_aroundCell_55 (lv_at hl 0 rfl) ?_
    refine lv_iadd hx hb dX7_aroundCell_57 ?_
    refine lv_iload_n hx hb dX7_aroundCell_58 rfl (lv_at hl 4 rfl) ?_
    refine lv_iadd hx hb dX7_aroundCell_59 ?_
    refine lv_iconst (v := 2) hx hb dX7_aroundCell_60 (by decide) ?_
    refine lv_isub hx hb dX7_aroundCell_61 ?_
    exact hE hw (Option.some.inj h) rfl dX7_aroundCell_62
  · replace h := it_f c5 h
    refine lv_iload_n hx hb dX7_aroundCell_24 rfl (lv_at hl 1 rfl) ?_
    refine lv_iload_n hx hb dX7_aroundCell_25 rfl (lv_at hl 4 rfl) ?_
    refine lv_iadd hx hb dX7_aroundCell_26 ?_
    refine lv_aload_n hx hb dX7_aroundCell_27 rfl (lv_at hl 2 rfl) ?_
    refine gM_0_0 hx_E hw fl_X7_7 dX7_aroundCell_28 ?_
    refine lv_iconst (v := 0) hx hb dX7_aroundCell_31 (by decide) ?_
    refine acM_1 hx_E hw (by decide) rfl dX7_aroundCell_32 ?_
    refine lv_imul hx hb dX7_aroundCell_33 ?_
    refine lv_iload hx hb dX7_aroundCell_34 (lv_at hl 0 rfl) ?_
    refine lv_iadd hx hb dX7_aroundCell_36 ?_
    refine lv_goto (tgt := 62) hx hb dX7_aroundCell_37 (by decide) ?_
    exact hE hw (Option.some.inj h) rfl dX7_aroundCell_62
set_option maxHeartbeats 4000000 in
set_option maxRecDepth 100000 in
theorem c_X7_toward (l : Launch) (K : vK) (ad : Nat → Nat) (hI : adInj 12 ad) (l1 : Int32) (l2 : Int32) (σ : vSt) {r : Int32} (h : f_X7_toward l1 l2 σ = some r) : MCi l yX7_toward (wsY yX7_toward cX7_toward 5 (some .int)) (rmF 2 20) K 12 ad (cM K ad) [.ref (ad 0), .int l1, .int l2] σ r σ := by
  refine MCi_of (own := RX7) (plainFor_of_name (by decide)) hI rfl (Nat.le_of_ble_eq_true rfl) ?_
  intro p e s m args below meth c A Q hx_E hE H locs ls hw hl
  have hx := hx_E.1; have hb := hx_E.2.1; have hown := hx_E.2.2.2.1; have hts := hx_E.2.2.2.2.1
  replace hl : lv_has ls 5 [(0, .ref (ad 0)), (1, .int l1), (2, .int l2)] := hl
  unfold f_X7_toward at h
  refine lv_iload_n hx hb dX7_toward_0 rfl (lv_at hl 1 rfl) ?_
  refine lv_aload_n hx hb dX7_toward_1 rfl (lv_at hl 0 rfl) ?_
  refine gM_0_0 hx_E hw fl_X7_7 dX7_toward_2 ?_
  refine lv_iconst (v := 0) hx hb dX7_toward_5 (by decide) ?_
  refine acM_1 hx_E hw (by decide) rfl dX7_toward_6 ?_
  refine lv_iconst (v := 1) hx hb dX7_toward_7 (by decide) ?_
  refine lv_iadd hx hb dX7_toward_8 ?_
  obtain ⟨g1, h⟩ := it_g h
  refine lv_idiv hx hb dX7_toward_9 g1 ?_
  obtain ⟨v2, e_v2, h⟩ := it_b h
  refine lt_topi (Option.some.inj e_v2) ?_
  refine lv_istore_n (lv' := [(3, .int v2), (0, .ref (ad 0)), (1, .int l1), (2, .int l2)]) hx hb dX7_toward_10 rfl hl (by decide) rfl (fun ls hl => ?_)
  refine lv_iload_n hx hb dX7_toward_11 rfl (lv_at hl 2 rfl) ?_
  refine lv_aload_n hx hb dX7_toward_12 rfl (lv_at hl 1 rfl) ?_
  refine gM_0_0 hx_E hw fl_X7_7 dX7_toward_13 ?_
  refine lv_iconst (v := 0) hx hb dX7_toward_16 (by decide) ?_
  refine acM_1 hx_E hw (by decide) rfl dX7_toward_17 ?_
  refine lv_iconst (v := 1) hx hb dX7_toward_18 (by decide) ?_
  refine lv_iadd hx hb dX7_toward_19 ?_
  obtain ⟨g3, h⟩ := it_g h
  refine lv_irem hx hb dX7_toward_20 g3 ?_
  obtain ⟨v4, e_v4, h⟩ := it_b h
  refine lt_topi (Option.some.inj e_v4) ?_
  refine lv_istore (lv' := [(4, .int v4), (3, .int v2), (0, .ref (ad 0)), (1, .int l1), (2, .int l2)]) hx hb dX7_toward_21 hl (by decide) rfl (fun ls hl => ?_)
  refine lv_iload_n hx hb dX7_toward_23 rfl (lv_at hl 4 rfl) ?_
  by_cases c13 : l2 = 0
  · replace h := it_t c13 h
    refine lv_tableIn (off := 28) (tgt := 52) hx hb dX7_toward_24 (by rw [c13]; decide) (by rw [c13]; decide) (by rw [c13]; rfl) (by decide) ?_
    refine lv_iload hx hb dX7_toward_52 (lv_at hl 0 rfl) ?_
    refine lv_if_le (tgt := 73) hx hb dX7_toward_54 (by decide) (fun c5 => ?_) (fun c5 => ?_)
    · replace h := it_t c5 h
      refine lv_iconst (v := -1) hx hb dX7_toward_73 (by decide) ?_
      exact hE hw (Option.some.inj h) rfl dX7_toward_74
    · replace h := it_f c5 h
      refine lv_iload_n hx hb dX7_toward_57 rfl (lv_at hl 1 rfl) ?_
      refine lv_aload_n hx hb dX7_toward_58 rfl (lv_at hl 2 rfl) ?_
      refine gM_0_0 hx_E hw fl_X7_7 dX7_toward_59 ?_
      refine lv_iconst (v := 0) hx hb dX7_toward_62 (by decide) ?_
      refine acM_1 hx_E hw (by decide) rfl dX7_toward_63 ?_
      refine lv_imul hx hb dX7_toward_64 ?_
      refine lv_iload hx hb dX7_toward_65 (lv_at hl 0 rfl) ?_
      refine lv_iadd hx hb dX7_toward_67 ?_
      refine lv_iconst (v := 1) hx hb dX7_toward_68 (by decide) ?_
      refine lv_isub hx hb dX7_toward_69 ?_
      refine lv_goto (tgt := 74) hx hb dX7_toward_70 (by decide) ?_
      exact hE hw (Option.some.inj h) rfl dX7_toward_74
  replace h := it_f c13 h
  by_cases c14 : l2 = 1
  · replace h := it_t c14 h
    refine lv_tableIn (off := 51) (tgt := 75) hx hb dX7_toward_24 (by rw [c14]; decide) (by rw [c14]; decide) (by rw [c14]; rfl) (by decide) ?_
    refine lv_iload hx hb dX7_toward_75 (lv_at hl 0 rfl) ?_
    refine lv_aload_n hx hb dX7_toward_77 rfl (lv_at hl 2 rfl) ?_
    refine gM_0_0 hx_E hw fl_X7_7 dX7_toward_78 ?_
    refine lv_iconst (v := 0) hx hb dX7_toward_81 (by decide) ?_
    refine acM_1 hx_E hw (by decide) rfl dX7_toward_82 ?_
    refine lv_icmp_ge (tgt := 100) hx hb dX7_toward_83 (by decide) (fun c6 => ?_) (fun c6 => ?_)
    · replace h := it_t c6 h
      refine lv_iconst (v := -1) hx hb dX7_toward_100 (by decide) ?_
      exact hE hw (Option.some.inj h) rfl dX7_toward_101
    · replace h := it_f c6 h
      refine lv_iload_n hx hb dX7_toward_86 rfl (lv_at hl 1 rfl) ?_
      refine lv_aload_n hx hb dX7_toward_87 rfl (lv_at hl 2 rfl) ?_
      refine gM_0_0 hx_E hw fl_X7_7 dX7_toward_88 ?_
      refine lv_iconst (v := 0) hx hb dX7_toward_91 (by decide) ?_
      refine acM_1 hx_E hw (by decide) rfl dX7_toward_92 ?_
      refine lv_imul hx hb dX7_toward_93 ?_
      refine lv_iload hx hb dX7_toward_94 (lv_at hl 0 rfl) ?_
      refine lv_iadd hx hb dX7_toward_96 ?_
      refine lv_goto (tgt := 101) hx hb dX7_toward_97 (by decide) ?_
      exact hE hw (Option.some.inj h) rfl dX7_toward_101
  replace h := it_f c14 h
  by_cases c15 : l2 = 2
  · replace h := it_t c15 h
    refine lv_tableIn (off := 78) (tgt := 102) hx hb dX7_toward_24 (by rw [c15]; decide) (by rw [c15]; decide) (by rw [c15]; rfl) (by decide) ?_
    refine lv_iload_n hx hb dX7_toward_102 rfl (lv_at hl 1 rfl) ?_
    refine lv_if_le (tgt := 129) hx hb dX7_toward_103 (by decide) (fun c7 => ?_) (fun c7 => ?_)
    · replace h := it_t c7 h
      refine lv_iconst (v := -1) hx hb dX7_toward_129 (by decide) ?_
      exact hE hw (Option.some.inj h) rfl dX7_toward_130
    · replace h := it_f c7 h
      refine lv_aload_n hx hb dX7_toward_106 rfl (lv_at hl 2 rfl) ?_
      obtain ⟨v8, k9, h⟩ := it_b h
      refine kV_i (As := []) (rest := []) (q := 0) hx_E hw (c_X7_vertical l K ad hI   σ k9) mi_X7_vertical mv_X7_vertical ml_X7_48 (by decide) rfl rfl rfl ⟨⟨Nat.le_of_ble_eq_true rfl, Nat.le_of_ble_eq_true rfl⟩, rfl, rfl⟩ ⟨Nat.zero_le _, Nat.zero_le _⟩ hl.1 rfl (Nat.le_of_ble_eq_true rfl) dX7_toward_107 (fun H locs hw => ?_)
      refine lv_iload_n hx hb dX7_toward_110 rfl (lv_at hl 1 rfl) ?_
      refine lv_iconst (v := 1) hx hb dX7_toward_111 (by decide) ?_
      refine lv_isub hx hb dX7_toward_112 ?_
      refine lv_aload_n hx hb dX7_toward_113 rfl (lv_at hl 2 rfl) ?_
      refine gM_0_0 hx_E hw fl_X7_7 dX7_toward_114 ?_
      refine lv_iconst (v := 0) hx hb dX7_toward_117 (by decide) ?_
      refine acM_1 hx_E hw (by decide) rfl dX7_toward_118 ?_
      refine lv_iconst (v := 1) hx hb dX7_toward_119 (by decide) ?_
      refine lv_iadd hx hb dX7_toward_120 ?_
      refine lv_imul hx hb dX7_toward_121 ?_
      refine lv_iadd hx hb dX7_toward_122 ?_
      refine lv_iload hx hb dX7_toward_123 (lv_at hl 0 rfl) ?_
      refine lv_iadd hx hb dX7_toward_125 ?_
      refine lv_goto (tgt := 130) hx hb dX7_toward_126 (by decide) ?_
      exact hE hw (Option.some.inj h) rfl dX7_toward_130
  replace h := it_f c15 h
  refine lv_tableOut (tgt := 131) hx hb dX7_toward_24 (sw_out0_2 c13 c14 c15) (by decide) ?_
  refine lv_iload_n hx hb dX7_toward_131 rfl (lv_at hl 1 rfl) ?_
  refine lv_aload_n hx hb dX7_toward_132 rfl (lv_at hl 2 rfl) ?_
  refine gM_0_0 hx_E hw fl_X7_7 dX7_toward_133 ?_
  refine lv_iconst (v := 1) hx hb dX7_toward_136 (by decide) ?_
  refine acM_1 hx_E hw (by decide) rfl dX7_toward_137 ?_
  refine lv_icmp_ge (tgt := 162) hx hb dX7_toward_138 (by decide) (fun c10 => ?_) (fun c10 => ?_)
  · replace h := it_t c10 h
    refine lv_iconst (v := -1) hx hb dX7_toward_162 (by decide) ?_
    exact hE hw (Option.some.inj h) rfl dX7_toward_163
  · replace h := it_f c10 h
    refine lv_aload_n hx hb dX7_toward_141 rfl (lv_at hl 2 rfl) ?_
    obtain ⟨v11, k12, h⟩ := it_b h
    refine kV_i (As := []) (rest := []) (q := 0) hx_E hw (c_X7_vertical l K ad hI   σ k12) mi_X7_vertical mv_X7_vertical ml_X7_48 (by decide) rfl rfl rfl ⟨⟨Nat.le_of_ble_eq_true rfl, Nat.le_of_ble_eq_true rfl⟩, rfl, rfl⟩ ⟨Nat.zero_le _, Nat.zero_le _⟩ hl.1 rfl (Nat.le_of_ble_eq_true rfl) dX7_toward_142 (fun H locs hw => ?_)
    refine lv_iload_n hx hb dX7_toward_145 rfl (lv_at hl 1 rfl) ?_
    refine lv_aload_n hx hb dX7_toward_146 rfl (lv_at hl 2 rfl) ?_
    refine gM_0_0 hx_E hw fl_X7_7 dX7_toward_147 ?_
    refine lv_iconst (v := 0) hx hb dX7_toward_150 (by decide) ?_
    refine acM_1 hx_E hw (by decide) rfl dX7_toward_151 ?_
    refine lv_iconst (v := 1) hx hb dX7_toward_152 (by decide) ?_
    refine lv_iadd hx hb dX7_toward_153 ?_
    refine lv_imul hx hb dX7_toward_154 ?_
    refine lv_iadd hx hb dX7_toward_155 ?_
    refine lv_iload hx hb dX7_toward_156 (lv_at hl 0 rfl) ?_
    refine lv_iadd hx hb dX7_toward_158 ?_
    refine lv_goto (tgt := 163) hx hb dX7_toward_159 (by decide) ?_
    exact hE hw (Option.some.inj h) rfl dX7_toward_163
set_option maxHeartbeats 4000000 in
set_option maxRecDepth 100000 in
theorem c_X7_end (l : Launch) (K : vK) (ad : Nat → Nat) (hI : adInj 12 ad) (l1 : Int32) (l2 : Int32) (σ : vSt) {r : Int32} (h : f_X7_end l1 l2 σ = some r) : MCi l yX7_end (wsY yX7_end cX7_end 4 (some .int)) (rmF 2 20) K 12 ad (cM K ad) [.ref (ad 0), .int l1, .int l2] σ r σ := by
  refine MCi_of (own := RX7) (plainFor_of_name (by decide)) hI rfl (Nat.le_of_ble_eq_true rfl) ?_
  intro p e s m args below meth c A Q hx_E hE H locs ls hw hl
  have hx := hx_E.1; have hb := hx_E.2.1; have hown := hx_E.2.2.2.1; have hts := hx_E.2.2.2.2.1
  replace hl : lv_has ls 4 [(0, .ref (ad 0)), (1, .int l1), (2, .int l2)] := hl
  unfold f_X7_end at h
  refine lv_aload_n hx hb dX7_end_0 rfl (lv_at hl 0 rfl) ?_
  obtain ⟨v1, k2, h⟩ := it_b h
  refine kV_i (As := []) (rest := []) (q := 0) hx_E hw (c_X7_vertical l K ad hI   σ k2) mi_X7_vertical mv_X7_vertical ml_X7_48 (by decide) rfl rfl rfl ⟨⟨Nat.le_of_ble_eq_true rfl, Nat.le_of_ble_eq_true rfl⟩, rfl, rfl⟩ ⟨Nat.zero_le _, Nat.zero_le _⟩ hl.1 rfl (Nat.le_of_ble_eq_true rfl) dX7_end_1 (fun H locs hw => ?_)
  refine lv_istore_n (lv' := [(3, .int v1), (0, .ref (ad 0)), (1, .int l1), (2, .int l2)]) hx hb dX7_end_4 rfl hl (by decide) rfl (fun ls hl => ?_)
  refine lv_iload_n hx hb dX7_end_5 rfl (lv_at hl 2 rfl) ?_
  refine lv_iload_n hx hb dX7_end_6 rfl (lv_at hl 0 rfl) ?_
  refine lv_icmp_ge (tgt := 47) hx hb dX7_end_7 (by decide) (fun c3 => ?_) (fun c3 => ?_)
  · replace h := it_t c3 h
    refine lv_iload_n hx hb dX7_end_47 rfl (lv_at hl 2 rfl) ?_
    refine lv_iload_n hx hb dX7_end_48 rfl (lv_at hl 0 rfl) ?_
    refine lv_isub hx hb dX7_end_49 ?_
    refine lv_iload_n hx hb dX7_end_50 rfl (lv_at hl 3 rfl) ?_
    refine lv_if_eq (tgt := 65) hx hb dX7_end_51 (by decide) (fun c4 => ?_) (fun c4 => ?_)
    · replace h := it_t c4 h
      refine lv_iconst (v := 0) hx hb dX7_end_65 (by decide) ?_
      refine lv_iadd hx hb dX7_end_66 ?_
      exact hE hw (Option.some.inj h) rfl dX7_end_67
    · replace h := it_f c4 h
      refine lv_aload_n hx hb dX7_end_54 rfl (lv_at hl 1 rfl) ?_
      refine gM_0_0 hx_E hw fl_X7_7 dX7_end_55 ?_
      refine lv_iconst (v := 0) hx hb dX7_end_58 (by decide) ?_
      refine acM_1 hx_E hw (by decide) rfl dX7_end_59 ?_
      refine lv_iconst (v := 1) hx hb dX7_end_60 (by decide) ?_
      refine lv_iadd hx hb dX7_end_61 ?_
      refine lv_goto (tgt := 66) hx hb dX7_end_62 (by decide) ?_
      refine lv_iadd hx hb dX7_end_66 ?_
      exact hE hw (Option.some.inj h) rfl dX7_end_67
  · replace h := it_f c3 h
    refine lv_iload_n hx hb dX7_end_10 rfl (lv_at hl 2 rfl) ?_
    refine lv_aload_n hx hb dX7_end_11 rfl (lv_at hl 1 rfl) ?_
    refine gM_0_0 hx_E hw fl_X7_7 dX7_end_12 ?_
    refine lv_iconst (v := 0) hx hb dX7_end_15 (by decide) ?_
    refine acM_1 hx_E hw (by decide) rfl dX7_end_16 ?_
    obtain ⟨g5, h⟩ := it_g h
    refine lv_idiv hx hb dX7_end_17 g5 ?_
    refine lv_aload_n hx hb dX7_end_18 rfl (lv_at hl 1 rfl) ?_
    refine gM_0_0 hx_E hw fl_X7_7 dX7_end_19 ?_
    refine lv_iconst (v := 0) hx hb dX7_end_22 (by decide) ?_
    refine acM_1 hx_E hw (by decide) rfl dX7_end_23 ?_
    refine lv_iconst (v := 1) hx hb dX7_end_24 (by decide) ?_
    refine lv_iadd hx hb dX7_end_25 ?_
    refine lv_imul hx hb dX7_end_26 ?_
    refine lv_iload_n hx hb dX7_end_27 rfl (lv_at hl 2 rfl) ?_
    refine lv_aload_n hx hb dX7_end_28 rfl (lv_at hl 1 rfl) ?_
    refine gM_0_0 hx_E hw fl_X7_7 dX7_end_29 ?_
    refine lv_iconst (v := 0) hx hb dX7_end_32 (by decide) ?_
    refine acM_1 hx_E hw (by decide) rfl dX7_end_33 ?_
    obtain ⟨g6, h⟩ := it_g h
    refine lv_irem hx hb dX7_end_34 g6 ?_
    refine lv_iadd hx hb dX7_end_35 ?_
    refine lv_iload_n hx hb dX7_end_36 rfl (lv_at hl 3 rfl) ?_
    refine lv_if_eq (tgt := 44) hx hb dX7_end_37 (by decide) (fun c7 => ?_) (fun c7 => ?_)
    · replace h := it_t c7 h
      refine lv_iconst (v := 0) hx hb dX7_end_44 (by decide) ?_
      refine lv_iadd hx hb dX7_end_45 ?_
      exact hE hw (Option.some.inj h) rfl dX7_end_46
    · replace h := it_f c7 h
      refine lv_iconst (v := 1) hx hb dX7_end_40 (by decide) ?_
      refine lv_goto (tgt := 45) hx hb dX7_end_41 (by decide) ?_
      refine lv_iadd hx hb dX7_end_45 ?_
      exact hE hw (Option.some.inj h) rfl dX7_end_46
set_option maxHeartbeats 4000000 in
set_option maxRecDepth 100000 in
theorem c_X7_markOf (l : Launch) (K : vK) (ad : Nat → Nat) (hI : adInj 12 ad) (l1 : Int32) (σ : vSt) {r : Int32} (h : f_X7_markOf l1 σ = some r) : MCi l yX7_markOf (wsY yX7_markOf cX7_markOf 2 (some .int)) (rmF 1 0) K 12 ad (cM K ad) [.ref (ad 0), .int l1] σ r σ := by
  refine MCi_of (own := RX7) (plainFor_of_name (by decide)) hI rfl (Nat.le_of_ble_eq_true rfl) ?_
  intro p e s m args below meth c A Q hx_E hE H locs ls hw hl
  have hx := hx_E.1; have hb := hx_E.2.1; have hown := hx_E.2.2.2.1; have hts := hx_E.2.2.2.2.1
  replace hl : lv_has ls 2 [(0, .ref (ad 0)), (1, .int l1)] := hl
  unfold f_X7_markOf at h
  refine lv_aload_n hx hb dX7_markOf_0 rfl (lv_at hl 0 rfl) ?_
  refine gM_0_0 hx_E hw fl_X7_7 dX7_markOf_1 ?_
  refine lv_bipush (v := 18) hx hb dX7_markOf_4 (by decide) ?_
  refine lv_iload_n hx hb dX7_markOf_6 rfl (lv_at hl 1 rfl) ?_
  refine lv_iadd hx hb dX7_markOf_7 ?_
  obtain ⟨g1, h⟩ := it_g h
  refine aM_1 hx_E hw g1 dX7_markOf_8 ?_
  exact hE hw (Option.some.inj h) rfl dX7_markOf_9
set_option maxHeartbeats 4000000 in
set_option maxRecDepth 100000 in
theorem c_X7_aroundWith (l : Launch) (K : vK) (ad : Nat → Nat) (hI : adInj 12 ad) (l1 : Int32) (l2 : Int32) (σ : vSt) {r : Int32} (h : f_X7_aroundWith l1 l2 σ = some r) : MCi l yX7_aroundWith (wsY yX7_aroundWith cX7_aroundWith 5 (some .int)) (rmF 3 44) K 12 ad (cM K ad) [.ref (ad 0), .int l1, .int l2] σ r σ := by
  refine MCi_of (own := RX7) (plainFor_of_name (by decide)) hI rfl (Nat.le_of_ble_eq_true rfl) ?_
  intro p e s m args below meth c A Q hx_E hE H locs ls hw hl
  have hx := hx_E.1; have hb := hx_E.2.1; have hown := hx_E.2.2.2.1; have hts := hx_E.2.2.2.2.1
  replace hl : lv_has ls 5 [(0, .ref (ad 0)), (1, .int l1), (2, .int l2)] := hl
  unfold f_X7_aroundWith at h
  refine lv_iconst (v := 0) hx hb dX7_aroundWith_0 (by decide) ?_
  refine lv_istore_n (lv' := [(3, .int (0 : Int32)), (0, .ref (ad 0)), (1, .int l1), (2, .int l2)]) hx hb dX7_aroundWith_1 rfl hl (by decide) rfl (fun ls hl => ?_)
  refine lv_iconst (v := 0) hx hb dX7_aroundWith_2 (by decide) ?_
  refine lv_istore (lv' := [(4, .int (0 : Int32)), (3, .int (0 : Int32)), (0, .ref (ad 0)), (1, .int l1), (2, .int l2)]) hx hb dX7_aroundWith_3 hl (by decide) rfl (fun ls hl => ?_)
  obtain ⟨φ6, h9, h_φ6⟩ := it_b h
  have hJ5 : ∀ (v3 : Int32), v3 = φ6 → ∀ (H : Heap) (locs : List Loc) (ls : Array Slot), PW K 12 ad (cM K ad) A s.heap σ H locs → lv_has ls 5 [(3, .int v3)] → W p l e (rmF 3 44) s m args below meth c H locs 0 0 Q (F0 m 40 ls []) := by
    intro v3 e9 H locs ls hw hl
    subst e9
    replace h := h_φ6
    refine lv_iload_n hx hb dX7_aroundWith_40 rfl (lv_at hl 0 rfl) ?_
    exact hE hw (Option.some.inj h) rfl dX7_aroundWith_41
  have hL4 : ∀ (n9 : Nat) (v1 : Int32) (v2 : Int32), ∀ (H : Heap) (locs : List Loc) (ls : Array Slot), f_X7_aroundWith_5 l1 l2 σ n9 v1 v2 = some φ6 → PW K 12 ad (cM K ad) A s.heap σ H locs → lv_has ls 5 [(0, .ref (ad 0)), (1, .int l1), (2, .int l2), (3, .int v1), (4, .int v2)] → W p l e (rmF 3 44) s m args below meth c H locs 0 0 Q (F0 m 5 ls []) := by
    intro n9
    induction n9 with
    | zero => intro v1 v2 H locs ls h hw hl; rw [f_X7_aroundWith_5.eq_1] at h; exact it_n h
    | succ n9 ih =>
      intro v1 v2 H locs ls h hw hl
      rw [f_X7_aroundWith_5.eq_2] at h
      refine lv_iload hx hb dX7_aroundWith_5 (lv_at hl 4 rfl) ?_
      refine lv_iconst (v := 4) hx hb dX7_aroundWith_7 (by decide) ?_
      refine lv_icmp_ge (tgt := 40) hx hb dX7_aroundWith_8 (by decide) (fun c7 => ?_) (fun c7 => ?_)
      · replace h := it_t c7 h
        have e9 := Option.some.inj h
        subst e9
        exact hJ5 _ rfl  H locs ls hw (lv_sub hl [3] rfl)
      · replace h := it_f c7 h
        refine lv_iload_n hx hb dX7_aroundWith_11 rfl (lv_at hl 3 rfl) ?_
        refine lv_aload_n hx hb dX7_aroundWith_12 rfl (lv_at hl 0 rfl) ?_
        refine lv_aload_n hx hb dX7_aroundWith_13 rfl (lv_at hl 0 rfl) ?_
        refine lv_iload_n hx hb dX7_aroundWith_14 rfl (lv_at hl 1 rfl) ?_
        refine lv_iload hx hb dX7_aroundWith_15 (lv_at hl 4 rfl) ?_
        obtain ⟨v8, k9, h⟩ := it_b h
        refine kV_i (As := [.int l1, .int v2]) (rest := [.ref (ad 0), .int v1]) (q := 0) hx_E hw (c_X7_aroundCell l K ad hI  l1 v2 σ k9) mi_X7_aroundCell mv_X7_aroundCell ml_X7_52 (by decide) rfl rfl rfl ⟨⟨Nat.le_of_ble_eq_true rfl, Nat.le_of_ble_eq_true rfl⟩, rfl, rfl⟩ ⟨Nat.zero_le _, Nat.zero_le _⟩ hl.1 rfl (Nat.le_of_ble_eq_true rfl) dX7_aroundWith_17 (fun H locs hw => ?_)
        obtain ⟨v10, k11, h⟩ := it_b h
        refine kV_i (As := [.int v8]) (rest := [.int v1]) (q := 0) hx_E hw (c_X7_markOf l K ad hI  v8 σ k11) mi_X7_markOf mv_X7_markOf ml_X7_56 (by decide) rfl rfl rfl ⟨⟨Nat.le_of_ble_eq_true rfl, Nat.le_of_ble_eq_true rfl⟩, rfl, rfl⟩ ⟨Nat.zero_le _, Nat.zero_le _⟩ hl.1 rfl (Nat.le_of_ble_eq_true rfl) dX7_aroundWith_20 (fun H locs hw => ?_)
        refine lv_iload_n hx hb dX7_aroundWith_23 rfl (lv_at hl 2 rfl) ?_
        obtain ⟨φ15, h9, h_φ15⟩ := it_b h
        have hJ14 : ∀ (v13 : Int32), v13 = φ15 → (v13 = 0 ∨ v13 = 1) → ∀ (H : Heap) (locs : List Loc) (ls : Array Slot), PW K 12 ad (cM K ad) A s.heap σ H locs → lv_has ls 5 [(0, .ref (ad 0)), (1, .int l1), (2, .int l2), (4, .int v2)] → W p l e (rmF 3 44) s m args below meth c H locs 0 0 Q (F0 m 32 ls [.int v13, .int v1]) := by
          intro v13 e9 z_v13 H locs ls hw hl
          subst e9
          replace h := h_φ15
          refine lv_iadd hx hb dX7_aroundWith_32 ?_
          obtain ⟨v16, e_v16, h⟩ := it_b h
          refine lt_topi (Option.some.inj e_v16) ?_
          refine lv_istore_n (lv' := [(3, .int v16), (0, .ref (ad 0)), (1, .int l1), (2, .int l2), (4, .int v2)]) hx hb dX7_aroundWith_33 rfl hl (by decide) rfl (fun ls hl => ?_)
          refine lv_iinc (v := (v2 + 1)) (lv' := [(4, .int (v2 + 1)), (3, .int v16), (0, .ref (ad 0)), (1, .int l1), (2, .int l2)]) hx hb dX7_aroundWith_34 hl (k := 4) rfl rfl (by decide) rfl (fun ls hl => ?_)
          refine lv_goto (tgt := 5) hx hb dX7_aroundWith_37 (by decide) ?_
          exact ih _ _   H locs ls h hw (lv_sub hl [2, 3, 4, 1, 0] rfl)
        replace h := h9
        refine lv_icmp_ne (tgt := 31) hx hb dX7_aroundWith_24 (by decide) (fun c12 => ?_) (fun c12 => ?_)
        · replace h := it_f c12 h
          refine lv_iconst (v := 0) hx hb dX7_aroundWith_31 (by decide) ?_
          have e9 := Option.some.inj h
          subst e9
          exact hJ14 _ rfl (Or.inl rfl) H locs ls hw (lv_sub hl [0, 1, 2, 4] rfl)
        · replace h := it_t c12 h
          refine lv_iconst (v := 1) hx hb dX7_aroundWith_27 (by decide) ?_
          refine lv_goto (tgt := 32) hx hb dX7_aroundWith_28 (by decide) ?_
          have e9 := Option.some.inj h
          subst e9
          exact hJ14 _ rfl (Or.inr rfl) H locs ls hw (lv_sub hl [0, 1, 2, 4] rfl)
  exact hL4 600 _ _  H locs ls h9 hw (lv_sub hl [2, 3, 4, 1, 0] rfl)
set_option maxHeartbeats 4000000 in
set_option maxRecDepth 100000 in
theorem c_X7_atWith (l : Launch) (K : vK) (ad : Nat → Nat) (hI : adInj 12 ad) (l1 : Int32) (l2 : Int32) (σ : vSt) {r : Int32} (h : f_X7_atWith l1 l2 σ = some r) : MCi l yX7_atWith (wsY yX7_atWith cX7_atWith 6 (some .int)) (rmF 3 44) K 12 ad (cM K ad) [.ref (ad 0), .int l1, .int l2] σ r σ := by
  refine MCi_of (own := RX7) (plainFor_of_name (by decide)) hI rfl (Nat.le_of_ble_eq_true rfl) ?_
  intro p e s m args below meth c A Q hx_E hE H locs ls hw hl
  have hx := hx_E.1; have hb := hx_E.2.1; have hown := hx_E.2.2.2.1; have hts := hx_E.2.2.2.2.1
  replace hl : lv_has ls 6 [(0, .ref (ad 0)), (1, .int l1), (2, .int l2)] := hl
  unfold f_X7_atWith at h
  refine lv_iconst (v := 0) hx hb dX7_atWith_0 (by decide) ?_
  refine lv_istore_n (lv' := [(3, .int (0 : Int32)), (0, .ref (ad 0)), (1, .int l1), (2, .int l2)]) hx hb dX7_atWith_1 rfl hl (by decide) rfl (fun ls hl => ?_)
  refine lv_iconst (v := 0) hx hb dX7_atWith_2 (by decide) ?_
  refine lv_istore (lv' := [(4, .int (0 : Int32)), (3, .int (0 : Int32)), (0, .ref (ad 0)), (1, .int l1), (2, .int l2)]) hx hb dX7_atWith_3 hl (by decide) rfl (fun ls hl => ?_)
  obtain ⟨φ6, h9, h_φ6⟩ := it_b h
  have hJ5 : ∀ (v3 : Int32), v3 = φ6 → ∀ (H : Heap) (locs : List Loc) (ls : Array Slot), PW K 12 ad (cM K ad) A s.heap σ H locs → lv_has ls 6 [(3, .int v3)] → W p l e (rmF 3 44) s m args below meth c H locs 0 0 Q (F0 m 50 ls []) := by
    intro v3 e9 H locs ls hw hl
    subst e9
    replace h := h_φ6
    refine lv_iload_n hx hb dX7_atWith_50 rfl (lv_at hl 0 rfl) ?_
    exact hE hw (Option.some.inj h) rfl dX7_atWith_51
  have hL4 : ∀ (n9 : Nat) (v1 : Int32) (v2 : Int32), ∀ (H : Heap) (locs : List Loc) (ls : Array Slot), f_X7_atWith_5 l1 l2 σ n9 v1 v2 = some φ6 → PW K 12 ad (cM K ad) A s.heap σ H locs → lv_has ls 6 [(0, .ref (ad 0)), (1, .int l1), (2, .int l2), (3, .int v1), (4, .int v2)] → W p l e (rmF 3 44) s m args below meth c H locs 0 0 Q (F0 m 5 ls []) := by
    intro n9
    induction n9 with
    | zero => intro v1 v2 H locs ls h hw hl; rw [f_X7_atWith_5.eq_1] at h; exact it_n h
    | succ n9 ih =>
      intro v1 v2 H locs ls h hw hl
      rw [f_X7_atWith_5.eq_2] at h
      refine lv_iload hx hb dX7_atWith_5 (lv_at hl 4 rfl) ?_
      refine lv_iconst (v := 4) hx hb dX7_atWith_7 (by decide) ?_
      refine lv_icmp_ge (tgt := 50) hx hb dX7_atWith_8 (by decide) (fun c7 => ?_) (fun c7 => ?_)
      · replace h := it_t c7 h
        have e9 := Option.some.inj h
        subst e9
        exact hJ5 _ rfl  H locs ls hw (lv_sub hl [3] rfl)
      · replace h := it_f c7 h
        refine lv_aload_n hx hb dX7_atWith_11 rfl (lv_at hl 0 rfl) ?_
        refine lv_iload_n hx hb dX7_atWith_12 rfl (lv_at hl 1 rfl) ?_
        refine lv_iload hx hb dX7_atWith_13 (lv_at hl 4 rfl) ?_
        obtain ⟨v8, k9, h⟩ := it_b h
        refine kV_i (As := [.int l1, .int v2]) (rest := []) (q := 0) hx_E hw (c_X7_toward l K ad hI  l1 v2 σ k9) mi_X7_toward mv_X7_toward ml_X7_60 (by decide) rfl rfl rfl ⟨⟨Nat.le_of_ble_eq_true rfl, Nat.le_of_ble_eq_true rfl⟩, rfl, rfl⟩ ⟨Nat.zero_le _, Nat.zero_le _⟩ hl.1 rfl (Nat.le_of_ble_eq_true rfl) dX7_atWith_15 (fun H locs hw => ?_)
        refine lv_istore (lv' := [(5, .int v8), (0, .ref (ad 0)), (1, .int l1), (2, .int l2), (3, .int v1), (4, .int v2)]) hx hb dX7_atWith_18 hl (by decide) rfl (fun ls hl => ?_)
        refine lv_iload_n hx hb dX7_atWith_20 rfl (lv_at hl 4 rfl) ?_
        refine lv_iload hx hb dX7_atWith_21 (lv_at hl 0 rfl) ?_
        refine lv_iconst (v := -1) hx hb dX7_atWith_23 (by decide) ?_
        obtain ⟨φ13, h9, h_φ13⟩ := it_b h
        have hJ12 : ∀ (v11 : Int32), v11 = φ13 → (v11 = 0 ∨ v11 = 1) → ∀ (H : Heap) (locs : List Loc) (ls : Array Slot), PW K 12 ad (cM K ad) A s.heap σ H locs → lv_has ls 6 [(0, .ref (ad 0)), (1, .int l1), (2, .int l2), (4, .int v2)] → W p l e (rmF 3 44) s m args below meth c H locs 0 0 Q (F0 m 42 ls [.int v11, .int v1]) := by
          intro v11 e9 z_v11 H locs ls hw hl
          subst e9
          replace h := h_φ13
          refine lv_iadd hx hb dX7_atWith_42 ?_
          obtain ⟨v17, e_v17, h⟩ := it_b h
          refine lt_topi (Option.some.inj e_v17) ?_
          refine lv_istore_n (lv' := [(3, .int v17), (0, .ref (ad 0)), (1, .int l1), (2, .int l2), (4, .int v2)]) hx hb dX7_atWith_43 rfl hl (by decide) rfl (fun ls hl => ?_)
          refine lv_iinc (v := (v2 + 1)) (lv' := [(4, .int (v2 + 1)), (3, .int v17), (0, .ref (ad 0)), (1, .int l1), (2, .int l2)]) hx hb dX7_atWith_44 hl (k := 4) rfl rfl (by decide) rfl (fun ls hl => ?_)
          refine lv_goto (tgt := 5) hx hb dX7_atWith_47 (by decide) ?_
          exact ih _ _   H locs ls h hw (lv_sub hl [2, 3, 4, 1, 0] rfl)
        replace h := h9
        refine lv_icmp_eq (tgt := 41) hx hb dX7_atWith_24 (by decide) (fun c10 => ?_) (fun c10 => ?_)
        · replace h := it_t c10 h
          refine lv_iconst (v := 0) hx hb dX7_atWith_41 (by decide) ?_
          have e9 := Option.some.inj h
          subst e9
          exact hJ12 _ rfl (Or.inl rfl) H locs ls hw (lv_sub hl [1, 2, 3, 5] rfl)
        · replace h := it_f c10 h
          refine lv_aload_n hx hb dX7_atWith_27 rfl (lv_at hl 1 rfl) ?_
          refine lv_iload hx hb dX7_atWith_28 (lv_at hl 0 rfl) ?_
          obtain ⟨v14, k15, h⟩ := it_b h
          refine kV_i (As := [.int v8]) (rest := [.int v1]) (q := 0) hx_E hw (c_X7_markOf l K ad hI  v8 σ k15) mi_X7_markOf mv_X7_markOf ml_X7_56 (by decide) rfl rfl rfl ⟨⟨Nat.le_of_ble_eq_true rfl, Nat.le_of_ble_eq_true rfl⟩, rfl, rfl⟩ ⟨Nat.zero_le _, Nat.zero_le _⟩ hl.1 rfl (Nat.le_of_ble_eq_true rfl) dX7_atWith_30 (fun H locs hw => ?_)
          refine lv_iload_n hx hb dX7_atWith_33 rfl (lv_at hl 3 rfl) ?_
          refine lv_icmp_ne (tgt := 41) hx hb dX7_atWith_34 (by decide) (fun c16 => ?_) (fun c16 => ?_)
          · replace h := it_f c16 h
            refine lv_iconst (v := 0) hx hb dX7_atWith_41 (by decide) ?_
            have e9 := Option.some.inj h
            subst e9
            exact hJ12 _ rfl (Or.inl rfl) H locs ls hw (lv_sub hl [1, 2, 3, 5] rfl)
          · replace h := it_t c16 h
            refine lv_iconst (v := 1) hx hb dX7_atWith_37 (by decide) ?_
            refine lv_goto (tgt := 42) hx hb dX7_atWith_38 (by decide) ?_
            have e9 := Option.some.inj h
            subst e9
            exact hJ12 _ rfl (Or.inr rfl) H locs ls hw (lv_sub hl [1, 2, 3, 5] rfl)
  exact hL4 600 _ _  H locs ls h9 hw (lv_sub hl [2, 3, 4, 1, 0] rfl)
set_option maxHeartbeats 4000000 in
set_option maxRecDepth 100000 in
theorem c_X7_openAround (l : Launch) (K : vK) (ad : Nat → Nat) (hI : adInj 12 ad) (l1 : Int32) (σ : vSt) {r : Int32} (h : f_X7_openAround l1 σ = some r) : MCi l yX7_openAround (wsY yX7_openAround cX7_openAround 3 (some .int)) (rmF 3 44) K 12 ad (cM K ad) [.ref (ad 0), .int l1] σ r σ := by
  refine MCi_of (own := RX7) (plainFor_of_name (by decide)) hI rfl (Nat.le_of_ble_eq_true rfl) ?_
  intro p e s m args below meth c A Q hx_E hE H locs ls hw hl
  have hx := hx_E.1; have hb := hx_E.2.1; have hown := hx_E.2.2.2.1; have hts := hx_E.2.2.2.2.1
  replace hl : lv_has ls 3 [(0, .ref (ad 0)), (1, .int l1)] := hl
  unfold f_X7_openAround at h
  refine lv_iconst (v := 0) hx hb dX7_openAround_0 (by decide) ?_
  refine lv_istore_n (lv' := [(2, .int (0 : Int32)), (0, .ref (ad 0)), (1, .int l1)]) hx hb dX7_openAround_1 rfl hl (by decide) rfl (fun ls hl => ?_)
  obtain ⟨φ5, h9, h_φ5⟩ := it_b h
  have hJ4 : ∀ (v2 : Int32), v2 = φ5 → ∀ (H : Heap) (locs : List Loc) (ls : Array Slot), PW K 12 ad (cM K ad) A s.heap σ H locs → lv_has ls 3 [(0, .ref (ad 0)), (1, .int l1), (2, .int v2)] → W p l e (rmF 3 44) s m args below meth c H locs 0 0 Q (F0 m 21 ls []) := by
    intro v2 e9 H locs ls hw hl
    subst e9
    replace h := h_φ5
    refine lv_aload_n hx hb dX7_openAround_21 rfl (lv_at hl 0 rfl) ?_
    refine lv_iload_n hx hb dX7_openAround_22 rfl (lv_at hl 1 rfl) ?_
    refine lv_iload_n hx hb dX7_openAround_23 rfl (lv_at hl 2 rfl) ?_
    obtain ⟨v11, k12, h⟩ := it_b h
    refine kV_i (As := [.int l1, .int v2]) (rest := []) (q := 0) hx_E hw (c_X7_aroundCell l K ad hI  l1 v2 σ k12) mi_X7_aroundCell mv_X7_aroundCell ml_X7_52 (by decide) rfl rfl rfl ⟨⟨Nat.le_of_ble_eq_true rfl, Nat.le_of_ble_eq_true rfl⟩, rfl, rfl⟩ ⟨Nat.zero_le _, Nat.zero_le _⟩ hl.1 rfl (Nat.le_of_ble_eq_true rfl) dX7_openAround_24 (fun H locs hw => ?_)
    exact hE hw (Option.some.inj h) rfl dX7_openAround_27
  have hL3 : ∀ (n9 : Nat) (v1 : Int32), ∀ (H : Heap) (locs : List Loc) (ls : Array Slot), f_X7_openAround_2 l1 σ n9 v1 = some φ5 → PW K 12 ad (cM K ad) A s.heap σ H locs → lv_has ls 3 [(0, .ref (ad 0)), (1, .int l1), (2, .int v1)] → W p l e (rmF 3 44) s m args below meth c H locs 0 0 Q (F0 m 2 ls []) := by
    intro n9
    induction n9 with
    | zero => intro v1 H locs ls h hw hl; rw [f_X7_openAround_2.eq_1] at h; exact it_n h
    | succ n9 ih =>
      intro v1 H locs ls h hw hl
      rw [f_X7_openAround_2.eq_2] at h
      refine lv_aload_n hx hb dX7_openAround_2 rfl (lv_at hl 0 rfl) ?_
      refine lv_aload_n hx hb dX7_openAround_3 rfl (lv_at hl 0 rfl) ?_
      refine lv_iload_n hx hb dX7_openAround_4 rfl (lv_at hl 1 rfl) ?_
      refine lv_iload_n hx hb dX7_openAround_5 rfl (lv_at hl 2 rfl) ?_
      obtain ⟨v6, k7, h⟩ := it_b h
      refine kV_i (As := [.int l1, .int v1]) (rest := [.ref (ad 0)]) (q := 0) hx_E hw (c_X7_aroundCell l K ad hI  l1 v1 σ k7) mi_X7_aroundCell mv_X7_aroundCell ml_X7_52 (by decide) rfl rfl rfl ⟨⟨Nat.le_of_ble_eq_true rfl, Nat.le_of_ble_eq_true rfl⟩, rfl, rfl⟩ ⟨Nat.zero_le _, Nat.zero_le _⟩ hl.1 rfl (Nat.le_of_ble_eq_true rfl) dX7_openAround_6 (fun H locs hw => ?_)
      obtain ⟨v8, k9, h⟩ := it_b h
      refine kV_i (As := [.int v6]) (rest := []) (q := 0) hx_E hw (c_X7_markOf l K ad hI  v6 σ k9) mi_X7_markOf mv_X7_markOf ml_X7_56 (by decide) rfl rfl rfl ⟨⟨Nat.le_of_ble_eq_true rfl, Nat.le_of_ble_eq_true rfl⟩, rfl, rfl⟩ ⟨Nat.zero_le _, Nat.zero_le _⟩ hl.1 rfl (Nat.le_of_ble_eq_true rfl) dX7_openAround_9 (fun H locs hw => ?_)
      refine lv_if_eq (tgt := 21) hx hb dX7_openAround_12 (by decide) (fun c10 => ?_) (fun c10 => ?_)
      · replace h := it_t c10 h
        have e9 := Option.some.inj h
        subst e9
        exact hJ4 _ rfl  H locs ls hw (lv_sub hl [0, 1, 2] rfl)
      · replace h := it_f c10 h
        refine lv_iinc (v := (v1 + 1)) (lv' := [(2, .int (v1 + 1)), (0, .ref (ad 0)), (1, .int l1)]) hx hb dX7_openAround_15 hl (k := 2) rfl rfl (by decide) rfl (fun ls hl => ?_)
        refine lv_goto (tgt := 2) hx hb dX7_openAround_18 (by decide) ?_
        exact ih _   H locs ls h hw (lv_sub hl [1, 2, 0] rfl)
  exact hL3 600 _  H locs ls h9 hw (lv_sub hl [1, 2, 0] rfl)
set_option maxHeartbeats 4000000 in
set_option maxRecDepth 100000 in
theorem c_X7_openAt (l : Launch) (K : vK) (ad : Nat → Nat) (hI : adInj 12 ad) (l1 : Int32) (σ : vSt) {r : Int32} (h : f_X7_openAt l1 σ = some r) : MCi l yX7_openAt (wsY yX7_openAt cX7_openAt 3 (some .int)) (rmF 3 44) K 12 ad (cM K ad) [.ref (ad 0), .int l1] σ r σ := by
  refine MCi_of (own := RX7) (plainFor_of_name (by decide)) hI rfl (Nat.le_of_ble_eq_true rfl) ?_
  intro p e s m args below meth c A Q hx_E hE H locs ls hw hl
  have hx := hx_E.1; have hb := hx_E.2.1; have hown := hx_E.2.2.2.1; have hts := hx_E.2.2.2.2.1
  replace hl : lv_has ls 3 [(0, .ref (ad 0)), (1, .int l1)] := hl
  unfold f_X7_openAt at h
  refine lv_iconst (v := 0) hx hb dX7_openAt_0 (by decide) ?_
  refine lv_istore_n (lv' := [(2, .int (0 : Int32)), (0, .ref (ad 0)), (1, .int l1)]) hx hb dX7_openAt_1 rfl hl (by decide) rfl (fun ls hl => ?_)
  obtain ⟨φ5, h9, h_φ5⟩ := it_b h
  have hJ4 : ∀ (v2 : Int32), v2 = φ5 → ∀ (H : Heap) (locs : List Loc) (ls : Array Slot), PW K 12 ad (cM K ad) A s.heap σ H locs → lv_has ls 3 [(0, .ref (ad 0)), (1, .int l1), (2, .int v2)] → W p l e (rmF 3 44) s m args below meth c H locs 0 0 Q (F0 m 31 ls []) := by
    intro v2 e9 H locs ls hw hl
    subst e9
    replace h := h_φ5
    refine lv_aload_n hx hb dX7_openAt_31 rfl (lv_at hl 0 rfl) ?_
    refine lv_iload_n hx hb dX7_openAt_32 rfl (lv_at hl 1 rfl) ?_
    refine lv_iload_n hx hb dX7_openAt_33 rfl (lv_at hl 2 rfl) ?_
    obtain ⟨v14, k15, h⟩ := it_b h
    refine kV_i (As := [.int l1, .int v2]) (rest := []) (q := 0) hx_E hw (c_X7_toward l K ad hI  l1 v2 σ k15) mi_X7_toward mv_X7_toward ml_X7_60 (by decide) rfl rfl rfl ⟨⟨Nat.le_of_ble_eq_true rfl, Nat.le_of_ble_eq_true rfl⟩, rfl, rfl⟩ ⟨Nat.zero_le _, Nat.zero_le _⟩ hl.1 rfl (Nat.le_of_ble_eq_true rfl) dX7_openAt_34 (fun H locs hw => ?_)
    exact hE hw (Option.some.inj h) rfl dX7_openAt_37
  have hL3 : ∀ (n9 : Nat) (v1 : Int32), ∀ (H : Heap) (locs : List Loc) (ls : Array Slot), f_X7_openAt_2 l1 σ n9 v1 = some φ5 → PW K 12 ad (cM K ad) A s.heap σ H locs → lv_has ls 3 [(0, .ref (ad 0)), (1, .int l1), (2, .int v1)] → W p l e (rmF 3 44) s m args below meth c H locs 0 0 Q (F0 m 2 ls []) := by
    intro n9
    induction n9 with
    | zero => intro v1 H locs ls h hw hl; rw [f_X7_openAt_2.eq_1] at h; exact it_n h
    | succ n9 ih =>
      intro v1 H locs ls h hw hl
      rw [f_X7_openAt_2.eq_2] at h
      refine lv_aload_n hx hb dX7_openAt_2 rfl (lv_at hl 0 rfl) ?_
      refine lv_iload_n hx hb dX7_openAt_3 rfl (lv_at hl 1 rfl) ?_
      refine lv_iload_n hx hb dX7_openAt_4 rfl (lv_at hl 2 rfl) ?_
      obtain ⟨v6, k7, h⟩ := it_b h
      refine kV_i (As := [.int l1, .int v1]) (rest := []) (q := 0) hx_E hw (c_X7_toward l K ad hI  l1 v1 σ k7) mi_X7_toward mv_X7_toward ml_X7_60 (by decide) rfl rfl rfl ⟨⟨Nat.le_of_ble_eq_true rfl, Nat.le_of_ble_eq_true rfl⟩, rfl, rfl⟩ ⟨Nat.zero_le _, Nat.zero_le _⟩ hl.1 rfl (Nat.le_of_ble_eq_true rfl) dX7_openAt_5 (fun H locs hw => ?_)
      refine lv_iconst (v := -1) hx hb dX7_openAt_8 (by decide) ?_
      refine lv_icmp_eq (tgt := 25) hx hb dX7_openAt_9 (by decide) (fun c8 => ?_) (fun c8 => ?_)
      · replace h := it_t c8 h
        refine lv_iinc (v := (v1 + 1)) (lv' := [(2, .int (v1 + 1)), (0, .ref (ad 0)), (1, .int l1)]) hx hb dX7_openAt_25 hl (k := 2) rfl rfl (by decide) rfl (fun ls hl => ?_)
        refine lv_goto (tgt := 2) hx hb dX7_openAt_28 (by decide) ?_
        exact ih _   H locs ls h hw (lv_sub hl [1, 2, 0] rfl)
      · replace h := it_f c8 h
        refine lv_aload_n hx hb dX7_openAt_12 rfl (lv_at hl 0 rfl) ?_
        refine lv_aload_n hx hb dX7_openAt_13 rfl (lv_at hl 0 rfl) ?_
        refine lv_iload_n hx hb dX7_openAt_14 rfl (lv_at hl 1 rfl) ?_
        refine lv_iload_n hx hb dX7_openAt_15 rfl (lv_at hl 2 rfl) ?_
        obtain ⟨v9, k10, h⟩ := it_b h
        refine kV_i (As := [.int l1, .int v1]) (rest := [.ref (ad 0)]) (q := 0) hx_E hw (c_X7_toward l K ad hI  l1 v1 σ k10) mi_X7_toward mv_X7_toward ml_X7_60 (by decide) rfl rfl rfl ⟨⟨Nat.le_of_ble_eq_true rfl, Nat.le_of_ble_eq_true rfl⟩, rfl, rfl⟩ ⟨Nat.zero_le _, Nat.zero_le _⟩ hl.1 rfl (Nat.le_of_ble_eq_true rfl) dX7_openAt_16 (fun H locs hw => ?_)
        obtain ⟨v11, k12, h⟩ := it_b h
        refine kV_i (As := [.int v9]) (rest := []) (q := 0) hx_E hw (c_X7_markOf l K ad hI  v9 σ k12) mi_X7_markOf mv_X7_markOf ml_X7_56 (by decide) rfl rfl rfl ⟨⟨Nat.le_of_ble_eq_true rfl, Nat.le_of_ble_eq_true rfl⟩, rfl, rfl⟩ ⟨Nat.zero_le _, Nat.zero_le _⟩ hl.1 rfl (Nat.le_of_ble_eq_true rfl) dX7_openAt_19 (fun H locs hw => ?_)
        refine lv_if_eq (tgt := 31) hx hb dX7_openAt_22 (by decide) (fun c13 => ?_) (fun c13 => ?_)
        · replace h := it_t c13 h
          have e9 := Option.some.inj h
          subst e9
          exact hJ4 _ rfl  H locs ls hw (lv_sub hl [0, 1, 2] rfl)
        · replace h := it_f c13 h
          refine lv_iinc (v := (v1 + 1)) (lv' := [(2, .int (v1 + 1)), (0, .ref (ad 0)), (1, .int l1)]) hx hb dX7_openAt_25 hl (k := 2) rfl rfl (by decide) rfl (fun ls hl => ?_)
          refine lv_goto (tgt := 2) hx hb dX7_openAt_28 (by decide) ?_
          exact ih _   H locs ls h hw (lv_sub hl [1, 2, 0] rfl)
  exact hL3 600 _  H locs ls h9 hw (lv_sub hl [1, 2, 0] rfl)
set_option maxHeartbeats 4000000 in
set_option maxRecDepth 100000 in
theorem c_X7_top (l : Launch) (K : vK) (ad : Nat → Nat) (hI : adInj 12 ad) (l1 : Int32) (σ : vSt) {r : Int32} (h : f_X7_top l1 σ = some r) : MCi l yX7_top (wsY yX7_top cX7_top 3 (some .int)) (rmF 1 0) K 12 ad (cM K ad) [.ref (ad 0), .int l1] σ r σ := by
  refine MCi_of (own := RX7) (plainFor_of_name (by decide)) hI rfl (Nat.le_of_ble_eq_true rfl) ?_
  intro p e s m args below meth c A Q hx_E hE H locs ls hw hl
  have hx := hx_E.1; have hb := hx_E.2.1; have hown := hx_E.2.2.2.1; have hts := hx_E.2.2.2.2.1
  replace hl : lv_has ls 3 [(0, .ref (ad 0)), (1, .int l1)] := hl
  unfold f_X7_top at h
  refine lv_iload_n hx hb dX7_top_0 rfl (lv_at hl 1 rfl) ?_
  refine lv_istore_n (lv' := [(2, .int l1), (0, .ref (ad 0)), (1, .int l1)]) hx hb dX7_top_1 rfl hl (by decide) rfl (fun ls hl => ?_)
  obtain ⟨φ5, h9, h_φ5⟩ := it_b h
  have hJ4 : ∀ (v2 : Int32), v2 = φ5 → ∀ (H : Heap) (locs : List Loc) (ls : Array Slot), PW K 12 ad (cM K ad) A s.heap σ H locs → lv_has ls 3 [(2, .int v2)] → W p l e (rmF 1 0) s m args below meth c H locs 0 0 Q (F0 m 22 ls []) := by
    intro v2 e9 H locs ls hw hl
    subst e9
    replace h := h_φ5
    refine lv_iload_n hx hb dX7_top_22 rfl (lv_at hl 0 rfl) ?_
    exact hE hw (Option.some.inj h) rfl dX7_top_23
  have hL3 : ∀ (n9 : Nat) (v1 : Int32), ∀ (H : Heap) (locs : List Loc) (ls : Array Slot), f_X7_top_2 σ n9 v1 = some φ5 → PW K 12 ad (cM K ad) A s.heap σ H locs → lv_has ls 3 [(0, .ref (ad 0)), (2, .int v1)] → W p l e (rmF 1 0) s m args below meth c H locs 0 0 Q (F0 m 2 ls []) := by
    intro n9
    induction n9 with
    | zero => intro v1 H locs ls h hw hl; rw [f_X7_top_2.eq_1] at h; exact it_n h
    | succ n9 ih =>
      intro v1 H locs ls h hw hl
      rw [f_X7_top_2.eq_2] at h
      refine lv_aload_n hx hb dX7_top_2 rfl (lv_at hl 0 rfl) ?_
      refine gM_0_5 hx_E hw fl_X7_19 dX7_top_3 ?_
      refine lv_iload_n hx hb dX7_top_6 rfl (lv_at hl 1 rfl) ?_
      obtain ⟨g6, h⟩ := it_g h
      refine aM_4 hx_E hw g6 dX7_top_7 ?_
      refine lv_iload_n hx hb dX7_top_8 rfl (lv_at hl 1 rfl) ?_
      refine lv_icmp_eq (tgt := 22) hx hb dX7_top_9 (by decide) (fun c7 => ?_) (fun c7 => ?_)
      · replace h := it_t c7 h
        have e9 := Option.some.inj h
        subst e9
        exact hJ4 _ rfl  H locs ls hw (lv_sub hl [1] rfl)
      · replace h := it_f c7 h
        refine lv_aload_n hx hb dX7_top_12 rfl (lv_at hl 0 rfl) ?_
        refine gM_0_5 hx_E hw fl_X7_19 dX7_top_13 ?_
        refine lv_iload_n hx hb dX7_top_16 rfl (lv_at hl 1 rfl) ?_
        obtain ⟨g8, h⟩ := it_g h
        refine aM_4 hx_E hw g8 dX7_top_17 ?_
        obtain ⟨v9, e_v9, h⟩ := it_b h
        refine lt_topi (Option.some.inj e_v9) ?_
        refine lv_istore_n (lv' := [(2, .int v9), (0, .ref (ad 0))]) hx hb dX7_top_18 rfl hl (by decide) rfl (fun ls hl => ?_)
        refine lv_goto (tgt := 2) hx hb dX7_top_19 (by decide) ?_
        exact ih _   H locs ls h hw (lv_sub hl [1, 0] rfl)
  exact hL3 600 _  H locs ls h9 hw (lv_sub hl [1, 0] rfl)
set_option maxHeartbeats 4000000 in
set_option maxRecDepth 100000 in
theorem c_X7_joins (l : Launch) (K : vK) (ad : Nat → Nat) (hI : adInj 12 ad) (σ : vSt) {σ' : vSt} (h : f_X7_joins σ = some σ') : MCv l yX7_joins (wsY yX7_joins cX7_joins 6 none) (rmF 4 69) K 12 ad (cM K ad) [.ref (ad 0)] σ σ' := by
  refine MCv_of (own := RX7) (plainFor_of_name (by decide)) hI rfl (Nat.le_of_ble_eq_true rfl) ?_
  intro p e s m args below meth c A Q hx_E hE H locs ls hw hl
  have hx := hx_E.1; have hb := hx_E.2.1; have hown := hx_E.2.2.2.1; have hts := hx_E.2.2.2.2.1
  replace hl : lv_has ls 6 [(0, .ref (ad 0))] := hl
  unfold f_X7_joins at h
  refine lv_aload_n hx hb dX7_joins_0 rfl (lv_at hl 0 rfl) ?_
  obtain ⟨v1, k2, h⟩ := it_b h
  refine kV_i (As := []) (rest := []) (q := 0) hx_E hw (c_X7_corners l K ad hI   σ k2) mi_X7_corners mv_X7_corners ml_X7_63 (by decide) rfl rfl rfl ⟨⟨Nat.le_of_ble_eq_true rfl, Nat.le_of_ble_eq_true rfl⟩, rfl, rfl⟩ ⟨Nat.zero_le _, Nat.zero_le _⟩ hl.1 rfl (Nat.le_of_ble_eq_true rfl) dX7_joins_1 (fun H locs hw => ?_)
  refine lv_istore_n (lv' := [(1, .int v1), (0, .ref (ad 0))]) hx hb dX7_joins_4 rfl hl (by decide) rfl (fun ls hl => ?_)
  refine lv_iconst (v := 0) hx hb dX7_joins_5 (by decide) ?_
  refine lv_istore_n (lv' := [(2, .int (0 : Int32)), (1, .int v1), (0, .ref (ad 0))]) hx hb dX7_joins_6 rfl hl (by decide) rfl (fun ls hl => ?_)
  obtain ⟨φ8, h9, h_φ8⟩ := it_b h
  have hJ7 : ∀ (σ5 : vSt), σ5 = φ8 → ∀ (H : Heap) (locs : List Loc) (ls : Array Slot), PW K 12 ad (cM K ad) A s.heap σ5 H locs → lv_has ls 6 [(0, .ref (ad 0)), (1, .int v1)] → W p l e (rmF 4 69) s m args below meth c H locs 0 0 Q (F0 m 39 ls []) := by
    intro σ5 e9 H locs ls hw hl
    subst e9
    replace h := h_φ8
    refine lv_aload_n hx hb dX7_joins_39 rfl (lv_at hl 0 rfl) ?_
    refine lv_iconst (v := 0) hx hb dX7_joins_40 (by decide) ?_
    refine pM_0_8 hx_E hw fl_X7_66 dX7_joins_41 (fun H locs hw => ?_)
    refine lv_aload_n hx hb dX7_joins_44 rfl (lv_at hl 0 rfl) ?_
    obtain ⟨v13, k14, h⟩ := it_b h
    refine kV_i (As := []) (rest := []) (q := 0) hx_E hw (c_X7_edges l K ad hI   (sI σ5 0 8 (0 : Int32)) k14) mi_X7_edges mv_X7_edges ml_X7_69 (by decide) rfl rfl rfl ⟨⟨Nat.le_of_ble_eq_true rfl, Nat.le_of_ble_eq_true rfl⟩, rfl, rfl⟩ ⟨Nat.zero_le _, Nat.zero_le _⟩ hl.1 rfl (Nat.le_of_ble_eq_true rfl) dX7_joins_45 (fun H locs hw => ?_)
    refine lv_istore_n (lv' := [(2, .int v13), (0, .ref (ad 0)), (1, .int v1)]) hx hb dX7_joins_48 rfl hl (by decide) rfl (fun ls hl => ?_)
    refine lv_iconst (v := 0) hx hb dX7_joins_49 (by decide) ?_
    refine lv_istore_n (lv' := [(3, .int (0 : Int32)), (2, .int v13), (0, .ref (ad 0)), (1, .int v1)]) hx hb dX7_joins_50 rfl hl (by decide) rfl (fun ls hl => ?_)
    obtain ⟨σ15, e_σ15, h⟩ := it_b h
    replace hw := PW_cast (Option.some.inj e_σ15) hw
    obtain ⟨φ21, h9, h_φ21⟩ := it_b h
    have hJ20 : ∀ (σ18 : vSt), σ18 = φ21 → ∀ (H : Heap) (locs : List Loc) (ls : Array Slot), PW K 12 ad (cM K ad) A s.heap σ18 H locs → lv_has ls 6 [(0, .ref (ad 0)), (1, .int v1), (2, .int v13)] → W p l e (rmF 4 69) s m args below meth c H locs 0 0 Q (F0 m 138 ls []) := by
      intro σ18 e9 H locs ls hw hl
      subst e9
      replace h := h_φ21
      refine lv_iconst (v := 0) hx hb dX7_joins_138 (by decide) ?_
      refine lv_istore_n (lv' := [(3, .int (0 : Int32)), (0, .ref (ad 0)), (1, .int v1), (2, .int v13)]) hx hb dX7_joins_139 rfl hl (by decide) rfl (fun ls hl => ?_)
      obtain ⟨φ48, h9, h_φ48⟩ := it_b h
      have hJ47 : ∀ (σ45 : vSt), σ45 = φ48 → ∀ (H : Heap) (locs : List Loc) (ls : Array Slot), PW K 12 ad (cM K ad) A s.heap σ45 H locs → lv_has ls 6 [(0, .ref (ad 0)), (1, .int v1)] → W p l e (rmF 4 69) s m args below meth c H locs 0 0 Q (F0 m 179 ls []) := by
        intro σ45 e9 H locs ls hw hl
        subst e9
        replace h := h_φ48
        refine lv_iconst (v := 0) hx hb dX7_joins_179 (by decide) ?_
        refine lv_istore_n (lv' := [(3, .int (0 : Int32)), (0, .ref (ad 0)), (1, .int v1)]) hx hb dX7_joins_180 rfl hl (by decide) rfl (fun ls hl => ?_)
        obtain ⟨φ64, h9, h_φ64⟩ := it_b h
        have hJ63 : ∀ (σ61 : vSt), σ61 = φ64 → ∀ (H : Heap) (locs : List Loc) (ls : Array Slot), PW K 12 ad (cM K ad) A s.heap σ61 H locs → lv_has ls 6 [] → W p l e (rmF 4 69) s m args below meth c H locs 0 0 Q (F0 m 239 ls []) := by
          intro σ61 e9 H locs ls hw hl
          subst e9
          replace h := h_φ64
          exact hE hw (Option.some.inj h) dX7_joins_239
        have hL62 : ∀ (n9 : Nat) (v59 : Int32) (σ60 : vSt), ∀ (H : Heap) (locs : List Loc) (ls : Array Slot), f_X7_joins_181 v1 n9 v59 σ60 = some φ64 → PW K 12 ad (cM K ad) A s.heap σ60 H locs → lv_has ls 6 [(0, .ref (ad 0)), (1, .int v1), (3, .int v59)] → W p l e (rmF 4 69) s m args below meth c H locs 0 0 Q (F0 m 181 ls []) := by
          intro n9
          induction n9 with
          | zero => intro v59 σ60 H locs ls h hw hl; rw [f_X7_joins_181.eq_1] at h; exact it_n h
          | succ n9 ih =>
            intro v59 σ60 H locs ls h hw hl
            rw [f_X7_joins_181.eq_2] at h
            refine lv_iload_n hx hb dX7_joins_181 rfl (lv_at hl 2 rfl) ?_
            refine lv_iload_n hx hb dX7_joins_182 rfl (lv_at hl 1 rfl) ?_
            refine lv_icmp_ge (tgt := 239) hx hb dX7_joins_183 (by decide) (fun c65 => ?_) (fun c65 => ?_)
            · replace h := it_t c65 h
              have e9 := Option.some.inj h
              subst e9
              exact hJ63 _ rfl  H locs ls hw (lv_sub hl [] rfl)
            · replace h := it_f c65 h
              refine lv_aload_n hx hb dX7_joins_186 rfl (lv_at hl 0 rfl) ?_
              refine lv_iload_n hx hb dX7_joins_187 rfl (lv_at hl 2 rfl) ?_
              refine lv_iconst (v := 1) hx hb dX7_joins_188 (by decide) ?_
              obtain ⟨v66, k67, h⟩ := it_b h
              refine kV_i (As := [.int v59, .int (1 : Int32)]) (rest := []) (q := 0) hx_E hw (c_X7_atWith l K ad hI  v59 (1 : Int32) σ60 k67) mi_X7_atWith mv_X7_atWith ml_X7_79 (by decide) rfl rfl rfl ⟨⟨Nat.le_of_ble_eq_true rfl, Nat.le_of_ble_eq_true rfl⟩, rfl, rfl⟩ ⟨Nat.zero_le _, Nat.zero_le _⟩ hl.1 rfl (Nat.le_of_ble_eq_true rfl) dX7_joins_189 (fun H locs hw => ?_)
              refine lv_istore (lv' := [(4, .int v66), (0, .ref (ad 0)), (1, .int v1), (3, .int v59)]) hx hb dX7_joins_192 hl (by decide) rfl (fun ls hl => ?_)
              refine lv_aload_n hx hb dX7_joins_194 rfl (lv_at hl 1 rfl) ?_
              refine gM_0_7 hx_E hw fl_X7_25 dX7_joins_195 ?_
              refine lv_aload_n hx hb dX7_joins_198 rfl (lv_at hl 1 rfl) ?_
              refine lv_iload_n hx hb dX7_joins_199 rfl (lv_at hl 3 rfl) ?_
              obtain ⟨v68, k69, h⟩ := it_b h
              refine kV_i (As := [.int v59]) (rest := [.ref (ad 6)]) (q := 0) hx_E hw (c_X7_top l K ad hI  v59 σ60 k69) mi_X7_top mv_X7_top ml_X7_76 (by decide) rfl rfl rfl ⟨⟨Nat.le_of_ble_eq_true rfl, Nat.le_of_ble_eq_true rfl⟩, rfl, rfl⟩ ⟨Nat.zero_le _, Nat.zero_le _⟩ hl.1 rfl (Nat.le_of_ble_eq_true rfl) dX7_joins_200 (fun H locs hw => ?_)
              refine lv_aload_n hx hb dX7_joins_203 rfl (lv_at hl 1 rfl) ?_
              refine gM_0_7 hx_E hw fl_X7_25 dX7_joins_204 ?_
              refine lv_aload_n hx hb dX7_joins_207 rfl (lv_at hl 1 rfl) ?_
              refine lv_iload_n hx hb dX7_joins_208 rfl (lv_at hl 3 rfl) ?_
              obtain ⟨v70, k71, h⟩ := it_b h
              refine kV_i (As := [.int v59]) (rest := [.ref (ad 6), .int v68, .ref (ad 6)]) (q := 0) hx_E hw (c_X7_top l K ad hI  v59 σ60 k71) mi_X7_top mv_X7_top ml_X7_76 (by decide) rfl rfl rfl ⟨⟨Nat.le_of_ble_eq_true rfl, Nat.le_of_ble_eq_true rfl⟩, rfl, rfl⟩ ⟨Nat.zero_le _, Nat.zero_le _⟩ hl.1 rfl (Nat.le_of_ble_eq_true rfl) dX7_joins_209 (fun H locs hw => ?_)
              obtain ⟨g72, h⟩ := it_g h
              refine aM_6 hx_E hw g72 dX7_joins_212 ?_
              refine lv_if_ne (tgt := 227) hx hb dX7_joins_213 (by decide) (fun c73 => ?_) (fun c73 => ?_)
              · replace h := it_f c73 h
                refine lv_iconst (v := 1) hx hb dX7_joins_227 (by decide) ?_
                refine lv_goto (tgt := 232) hx hb dX7_joins_228 (by decide) ?_
                obtain ⟨g74, h⟩ := it_g h
                refine sM_6 hx_E hw g74 dX7_joins_232 (fun H locs hw => ?_)
                refine lv_iinc (v := (v59 + 1)) (lv' := [(3, .int (v59 + 1)), (4, .int v66), (0, .ref (ad 0)), (1, .int v1)]) hx hb dX7_joins_233 hl (k := 3) rfl rfl (by decide) rfl (fun ls hl => ?_)
                refine lv_goto (tgt := 181) hx hb dX7_joins_236 (by decide) ?_
                exact ih _ _  H locs ls h hw (lv_sub hl [2, 3, 0] rfl)
              · replace h := it_t c73 h
                refine lv_iload hx hb dX7_joins_216 (lv_at hl 0 rfl) ?_
                refine lv_if_eq (tgt := 231) hx hb dX7_joins_218 (by decide) (fun c75 => ?_) (fun c75 => ?_)
                · replace h := it_t c75 h
                  refine lv_iconst (v := 0) hx hb dX7_joins_231 (by decide) ?_
                  obtain ⟨g76, h⟩ := it_g h
                  refine sM_6 hx_E hw g76 dX7_joins_232 (fun H locs hw => ?_)
                  refine lv_iinc (v := (v59 + 1)) (lv' := [(3, .int (v59 + 1)), (4, .int v66), (0, .ref (ad 0)), (1, .int v1)]) hx hb dX7_joins_233 hl (k := 3) rfl rfl (by decide) rfl (fun ls hl => ?_)
                  refine lv_goto (tgt := 181) hx hb dX7_joins_236 (by decide) ?_
                  exact ih _ _  H locs ls h hw (lv_sub hl [2, 3, 0] rfl)
                · replace h := it_f c75 h
                  refine lv_iload hx hb dX7_joins_221 (lv_at hl 0 rfl) ?_
                  refine lv_iconst (v := 2) hx hb dX7_joins_223 (by decide) ?_
                  refine lv_icmp_eq (tgt := 231) hx hb dX7_joins_224 (by decide) (fun c77 => ?_) (fun c77 => ?_)
                  · replace h := it_t c77 h
                    refine lv_iconst (v := 0) hx hb dX7_joins_231 (by decide) ?_
                    obtain ⟨g78, h⟩ := it_g h
                    refine sM_6 hx_E hw g78 dX7_joins_232 (fun H locs hw => ?_)
                    refine lv_iinc (v := (v59 + 1)) (lv' := [(3, .int (v59 + 1)), (4, .int v66), (0, .ref (ad 0)), (1, .int v1)]) hx hb dX7_joins_233 hl (k := 3) rfl rfl (by decide) rfl (fun ls hl => ?_)
                    refine lv_goto (tgt := 181) hx hb dX7_joins_236 (by decide) ?_
                    exact ih _ _  H locs ls h hw (lv_sub hl [2, 3, 0] rfl)
                  · replace h := it_f c77 h
                    refine lv_iconst (v := 1) hx hb dX7_joins_227 (by decide) ?_
                    refine lv_goto (tgt := 232) hx hb dX7_joins_228 (by decide) ?_
                    obtain ⟨g79, h⟩ := it_g h
                    refine sM_6 hx_E hw g79 dX7_joins_232 (fun H locs hw => ?_)
                    refine lv_iinc (v := (v59 + 1)) (lv' := [(3, .int (v59 + 1)), (4, .int v66), (0, .ref (ad 0)), (1, .int v1)]) hx hb dX7_joins_233 hl (k := 3) rfl rfl (by decide) rfl (fun ls hl => ?_)
                    refine lv_goto (tgt := 181) hx hb dX7_joins_236 (by decide) ?_
                    exact ih _ _  H locs ls h hw (lv_sub hl [2, 3, 0] rfl)
        exact hL62 600 _ _  H locs ls h9 hw (lv_sub hl [1, 2, 0] rfl)
      have hL46 : ∀ (n9 : Nat) (v43 : Int32) (σ44 : vSt), ∀ (H : Heap) (locs : List Loc) (ls : Array Slot), f_X7_joins_140 v13 n9 v43 σ44 = some φ48 → PW K 12 ad (cM K ad) A s.heap σ44 H locs → lv_has ls 6 [(0, .ref (ad 0)), (1, .int v1), (2, .int v13), (3, .int v43)] → W p l e (rmF 4 69) s m args below meth c H locs 0 0 Q (F0 m 140 ls []) := by
        intro n9
        induction n9 with
        | zero => intro v43 σ44 H locs ls h hw hl; rw [f_X7_joins_140.eq_1] at h; exact it_n h
        | succ n9 ih =>
          intro v43 σ44 H locs ls h hw hl
          rw [f_X7_joins_140.eq_2] at h
          refine lv_iload_n hx hb dX7_joins_140 rfl (lv_at hl 3 rfl) ?_
          refine lv_iload_n hx hb dX7_joins_141 rfl (lv_at hl 2 rfl) ?_
          refine lv_icmp_ge (tgt := 179) hx hb dX7_joins_142 (by decide) (fun c49 => ?_) (fun c49 => ?_)
          · replace h := it_t c49 h
            have e9 := Option.some.inj h
            subst e9
            exact hJ47 _ rfl  H locs ls hw (lv_sub hl [0, 1] rfl)
          · replace h := it_f c49 h
            refine lv_aload_n hx hb dX7_joins_145 rfl (lv_at hl 0 rfl) ?_
            refine lv_iload_n hx hb dX7_joins_146 rfl (lv_at hl 3 rfl) ?_
            obtain ⟨v50, k51, h⟩ := it_b h
            refine kV_i (As := [.int v43]) (rest := []) (q := 0) hx_E hw (c_X7_markOf l K ad hI  v43 σ44 k51) mi_X7_markOf mv_X7_markOf ml_X7_56 (by decide) rfl rfl rfl ⟨⟨Nat.le_of_ble_eq_true rfl, Nat.le_of_ble_eq_true rfl⟩, rfl, rfl⟩ ⟨Nat.zero_le _, Nat.zero_le _⟩ hl.1 rfl (Nat.le_of_ble_eq_true rfl) dX7_joins_147 (fun H locs hw => ?_)
            refine lv_iconst (v := 1) hx hb dX7_joins_150 (by decide) ?_
            refine lv_icmp_ne (tgt := 173) hx hb dX7_joins_151 (by decide) (fun c52 => ?_) (fun c52 => ?_)
            · replace h := it_f c52 h
              refine lv_iinc (v := (v43 + 1)) (lv' := [(3, .int (v43 + 1)), (0, .ref (ad 0)), (1, .int v1), (2, .int v13)]) hx hb dX7_joins_173 hl (k := 3) rfl rfl (by decide) rfl (fun ls hl => ?_)
              refine lv_goto (tgt := 140) hx hb dX7_joins_176 (by decide) ?_
              exact ih _ _  H locs ls h hw (lv_sub hl [1, 2, 3, 0] rfl)
            · replace h := it_t c52 h
              refine lv_aload_n hx hb dX7_joins_154 rfl (lv_at hl 0 rfl) ?_
              refine gM_0_6 hx_E hw fl_X7_22 dX7_joins_155 ?_
              refine lv_aload_n hx hb dX7_joins_158 rfl (lv_at hl 0 rfl) ?_
              refine lv_aload_n hx hb dX7_joins_159 rfl (lv_at hl 0 rfl) ?_
              refine lv_iload_n hx hb dX7_joins_160 rfl (lv_at hl 3 rfl) ?_
              refine lv_iconst (v := 0) hx hb dX7_joins_161 (by decide) ?_
              obtain ⟨v53, k54, h⟩ := it_b h
              refine kV_i (As := [.int v43, .int (0 : Int32)]) (rest := [.ref (ad 0), .ref (ad 5)]) (q := 0) hx_E hw (c_X7_end l K ad hI  v43 (0 : Int32) σ44 k54) mi_X7_end mv_X7_end ml_X7_72 (by decide) rfl rfl rfl ⟨⟨Nat.le_of_ble_eq_true rfl, Nat.le_of_ble_eq_true rfl⟩, rfl, rfl⟩ ⟨Nat.zero_le _, Nat.zero_le _⟩ hl.1 rfl (Nat.le_of_ble_eq_true rfl) dX7_joins_162 (fun H locs hw => ?_)
              obtain ⟨v55, k56, h⟩ := it_b h
              refine kV_i (As := [.int v53]) (rest := [.ref (ad 5)]) (q := 0) hx_E hw (c_X7_top l K ad hI  v53 σ44 k56) mi_X7_top mv_X7_top ml_X7_76 (by decide) rfl rfl rfl ⟨⟨Nat.le_of_ble_eq_true rfl, Nat.le_of_ble_eq_true rfl⟩, rfl, rfl⟩ ⟨Nat.zero_le _, Nat.zero_le _⟩ hl.1 rfl (Nat.le_of_ble_eq_true rfl) dX7_joins_165 (fun H locs hw => ?_)
              refine lv_dup2_11 hx hb dX7_joins_168 rfl rfl ?_
              obtain ⟨g57, h⟩ := it_g h
              refine aM_5 hx_E hw g57 dX7_joins_169 ?_
              refine lv_iconst (v := 1) hx hb dX7_joins_170 (by decide) ?_
              refine lv_iadd hx hb dX7_joins_171 ?_
              obtain ⟨g58, h⟩ := it_g h
              refine sM_5 hx_E hw g58 dX7_joins_172 (fun H locs hw => ?_)
              refine lv_iinc (v := (v43 + 1)) (lv' := [(3, .int (v43 + 1)), (0, .ref (ad 0)), (1, .int v1), (2, .int v13)]) hx hb dX7_joins_173 hl (k := 3) rfl rfl (by decide) rfl (fun ls hl => ?_)
              refine lv_goto (tgt := 140) hx hb dX7_joins_176 (by decide) ?_
              exact ih _ _  H locs ls h hw (lv_sub hl [1, 2, 3, 0] rfl)
      exact hL46 600 _ _  H locs ls h9 hw (lv_sub hl [1, 2, 3, 0] rfl)
    have hL19 : ∀ (n9 : Nat) (v16 : Int32) (σ17 : vSt), ∀ (H : Heap) (locs : List Loc) (ls : Array Slot), f_X7_joins_51 v13 n9 v16 σ17 = some φ21 → PW K 12 ad (cM K ad) A s.heap σ17 H locs → lv_has ls 6 [(0, .ref (ad 0)), (1, .int v1), (2, .int v13), (3, .int v16)] → W p l e (rmF 4 69) s m args below meth c H locs 0 0 Q (F0 m 51 ls []) := by
      intro n9
      induction n9 with
      | zero => intro v16 σ17 H locs ls h hw hl; rw [f_X7_joins_51.eq_1] at h; exact it_n h
      | succ n9 ih =>
        intro v16 σ17 H locs ls h hw hl
        rw [f_X7_joins_51.eq_2] at h
        refine lv_iload_n hx hb dX7_joins_51 rfl (lv_at hl 3 rfl) ?_
        refine lv_iload_n hx hb dX7_joins_52 rfl (lv_at hl 2 rfl) ?_
        refine lv_icmp_ge (tgt := 138) hx hb dX7_joins_53 (by decide) (fun c22 => ?_) (fun c22 => ?_)
        · replace h := it_t c22 h
          have e9 := Option.some.inj h
          subst e9
          exact hJ20 _ rfl  H locs ls hw (lv_sub hl [0, 1, 2] rfl)
        · replace h := it_f c22 h
          refine lv_aload_n hx hb dX7_joins_56 rfl (lv_at hl 0 rfl) ?_
          refine lv_iload_n hx hb dX7_joins_57 rfl (lv_at hl 3 rfl) ?_
          obtain ⟨v23, k24, h⟩ := it_b h
          refine kV_i (As := [.int v16]) (rest := []) (q := 0) hx_E hw (c_X7_markOf l K ad hI  v16 σ17 k24) mi_X7_markOf mv_X7_markOf ml_X7_56 (by decide) rfl rfl rfl ⟨⟨Nat.le_of_ble_eq_true rfl, Nat.le_of_ble_eq_true rfl⟩, rfl, rfl⟩ ⟨Nat.zero_le _, Nat.zero_le _⟩ hl.1 rfl (Nat.le_of_ble_eq_true rfl) dX7_joins_58 (fun H locs hw => ?_)
          refine lv_iconst (v := 1) hx hb dX7_joins_61 (by decide) ?_
          refine lv_icmp_ne (tgt := 132) hx hb dX7_joins_62 (by decide) (fun c25 => ?_) (fun c25 => ?_)
          · replace h := it_f c25 h
            refine lv_iinc (v := (v16 + 1)) (lv' := [(3, .int (v16 + 1)), (0, .ref (ad 0)), (1, .int v1), (2, .int v13)]) hx hb dX7_joins_132 hl (k := 3) rfl rfl (by decide) rfl (fun ls hl => ?_)
            refine lv_goto (tgt := 51) hx hb dX7_joins_135 (by decide) ?_
            exact ih _ _  H locs ls h hw (lv_sub hl [1, 2, 3, 0] rfl)
          · replace h := it_t c25 h
            refine lv_aload_n hx hb dX7_joins_65 rfl (lv_at hl 0 rfl) ?_
            refine lv_aload_n hx hb dX7_joins_66 rfl (lv_at hl 0 rfl) ?_
            refine lv_iload_n hx hb dX7_joins_67 rfl (lv_at hl 3 rfl) ?_
            refine lv_iconst (v := 0) hx hb dX7_joins_68 (by decide) ?_
            obtain ⟨v26, k27, h⟩ := it_b h
            refine kV_i (As := [.int v16, .int (0 : Int32)]) (rest := [.ref (ad 0)]) (q := 0) hx_E hw (c_X7_end l K ad hI  v16 (0 : Int32) σ17 k27) mi_X7_end mv_X7_end ml_X7_72 (by decide) rfl rfl rfl ⟨⟨Nat.le_of_ble_eq_true rfl, Nat.le_of_ble_eq_true rfl⟩, rfl, rfl⟩ ⟨Nat.zero_le _, Nat.zero_le _⟩ hl.1 rfl (Nat.le_of_ble_eq_true rfl) dX7_joins_69 (fun H locs hw => ?_)
            obtain ⟨v28, k29, h⟩ := it_b h
            refine kV_i (As := [.int v26]) (rest := []) (q := 0) hx_E hw (c_X7_top l K ad hI  v26 σ17 k29) mi_X7_top mv_X7_top ml_X7_76 (by decide) rfl rfl rfl ⟨⟨Nat.le_of_ble_eq_true rfl, Nat.le_of_ble_eq_true rfl⟩, rfl, rfl⟩ ⟨Nat.zero_le _, Nat.zero_le _⟩ hl.1 rfl (Nat.le_of_ble_eq_true rfl) dX7_joins_72 (fun H locs hw => ?_)
            refine lv_istore (lv' := [(4, .int v28), (0, .ref (ad 0)), (1, .int v1), (2, .int v13), (3, .int v16)]) hx hb dX7_joins_75 hl (by decide) rfl (fun ls hl => ?_)
            refine lv_aload_n hx hb dX7_joins_77 rfl (lv_at hl 1 rfl) ?_
            refine lv_aload_n hx hb dX7_joins_78 rfl (lv_at hl 1 rfl) ?_
            refine lv_iload_n hx hb dX7_joins_79 rfl (lv_at hl 4 rfl) ?_
            refine lv_iconst (v := 1) hx hb dX7_joins_80 (by decide) ?_
            obtain ⟨v30, k31, h⟩ := it_b h
            refine kV_i (As := [.int v16, .int (1 : Int32)]) (rest := [.ref (ad 0)]) (q := 0) hx_E hw (c_X7_end l K ad hI  v16 (1 : Int32) σ17 k31) mi_X7_end mv_X7_end ml_X7_72 (by decide) rfl rfl rfl ⟨⟨Nat.le_of_ble_eq_true rfl, Nat.le_of_ble_eq_true rfl⟩, rfl, rfl⟩ ⟨Nat.zero_le _, Nat.zero_le _⟩ hl.1 rfl (Nat.le_of_ble_eq_true rfl) dX7_joins_81 (fun H locs hw => ?_)
            obtain ⟨v32, k33, h⟩ := it_b h
            refine kV_i (As := [.int v30]) (rest := []) (q := 0) hx_E hw (c_X7_top l K ad hI  v30 σ17 k33) mi_X7_top mv_X7_top ml_X7_76 (by decide) rfl rfl rfl ⟨⟨Nat.le_of_ble_eq_true rfl, Nat.le_of_ble_eq_true rfl⟩, rfl, rfl⟩ ⟨Nat.zero_le _, Nat.zero_le _⟩ hl.1 rfl (Nat.le_of_ble_eq_true rfl) dX7_joins_84 (fun H locs hw => ?_)
            refine lv_istore (lv' := [(5, .int v32), (4, .int v28), (0, .ref (ad 0)), (1, .int v1), (2, .int v13), (3, .int v16)]) hx hb dX7_joins_87 hl (by decide) rfl (fun ls hl => ?_)
            refine lv_aload_n hx hb dX7_joins_89 rfl (lv_at hl 2 rfl) ?_
            refine gM_0_5 hx_E hw fl_X7_19 dX7_joins_90 ?_
            refine lv_iload hx hb dX7_joins_93 (lv_at hl 1 rfl) ?_
            refine lv_iload hx hb dX7_joins_95 (lv_at hl 0 rfl) ?_
            obtain ⟨φ37, h9, h_φ37⟩ := it_b h
            have hJ36 : ∀ (v35 : Int32), v35 = φ37 → ∀ (H : Heap) (locs : List Loc) (ls : Array Slot), PW K 12 ad (cM K ad) A s.heap σ17 H locs → lv_has ls 6 [(0, .ref (ad 0)), (1, .int v1), (2, .int v13), (3, .int v16), (4, .int v28), (5, .int v32)] → W p l e (rmF 4 69) s m args below meth c H locs 0 0 Q (F0 m 107 ls [.int v35, .ref (ad 4)]) := by
              intro v35 e9 H locs ls hw hl
              subst e9
              replace h := h_φ37
              refine lv_iload hx hb dX7_joins_107 (lv_at hl 4 rfl) ?_
              refine lv_iload hx hb dX7_joins_109 (lv_at hl 5 rfl) ?_
              obtain ⟨φ41, h9, h_φ41⟩ := it_b h
              have hJ40 : ∀ (v39 : Int32), v39 = φ41 → ∀ (H : Heap) (locs : List Loc) (ls : Array Slot), PW K 12 ad (cM K ad) A s.heap σ17 H locs → lv_has ls 6 [(0, .ref (ad 0)), (1, .int v1), (2, .int v13), (3, .int v16)] → W p l e (rmF 4 69) s m args below meth c H locs 0 0 Q (F0 m 121 ls [.int v39, .int v35, .ref (ad 4)]) := by
                intro v39 e9 H locs ls hw hl
                subst e9
                replace h := h_φ41
                obtain ⟨g42, h⟩ := it_g h
                refine sM_4 hx_E hw g42 dX7_joins_121 (fun H locs hw => ?_)
                refine lv_aload_n hx hb dX7_joins_122 rfl (lv_at hl 0 rfl) ?_
                refine lv_dup hx hb dX7_joins_123 rfl ?_
                refine gM_0_8 hx_E hw fl_X7_66 dX7_joins_124 ?_
                refine lv_iconst (v := 1) hx hb dX7_joins_127 (by decide) ?_
                refine lv_iadd hx hb dX7_joins_128 ?_
                refine pM_0_8 hx_E hw fl_X7_66 dX7_joins_129 (fun H locs hw => ?_)
                refine lv_iinc (v := (v16 + 1)) (lv' := [(3, .int (v16 + 1)), (0, .ref (ad 0)), (1, .int v1), (2, .int v13)]) hx hb dX7_joins_132 hl (k := 3) rfl rfl (by decide) rfl (fun ls hl => ?_)
                refine lv_goto (tgt := 51) hx hb dX7_joins_135 (by decide) ?_
                exact ih _ _  H locs ls h hw (lv_sub hl [1, 2, 3, 0] rfl)
              replace h := h9
              refine lv_icmp_le (tgt := 119) hx hb dX7_joins_111 (by decide) (fun c38 => ?_) (fun c38 => ?_)
              · replace h := it_t c38 h
                refine lv_iload hx hb dX7_joins_119 (lv_at hl 4 rfl) ?_
                have e9 := Option.some.inj h
                subst e9
                exact hJ40 _ rfl  H locs ls hw (lv_sub hl [0, 1, 2, 3] rfl)
              · replace h := it_f c38 h
                refine lv_iload hx hb dX7_joins_114 (lv_at hl 5 rfl) ?_
                refine lv_goto (tgt := 121) hx hb dX7_joins_116 (by decide) ?_
                have e9 := Option.some.inj h
                subst e9
                exact hJ40 _ rfl  H locs ls hw (lv_sub hl [0, 1, 2, 3] rfl)
            replace h := h9
            refine lv_icmp_le (tgt := 105) hx hb dX7_joins_97 (by decide) (fun c34 => ?_) (fun c34 => ?_)
            · replace h := it_t c34 h
              refine lv_iload hx hb dX7_joins_105 (lv_at hl 0 rfl) ?_
              have e9 := Option.some.inj h
              subst e9
              exact hJ36 _ rfl  H locs ls hw (lv_sub hl [2, 3, 4, 5, 1, 0] rfl)
            · replace h := it_f c34 h
              refine lv_iload hx hb dX7_joins_100 (lv_at hl 1 rfl) ?_
              refine lv_goto (tgt := 107) hx hb dX7_joins_102 (by decide) ?_
              have e9 := Option.some.inj h
              subst e9
              exact hJ36 _ rfl  H locs ls hw (lv_sub hl [2, 3, 4, 5, 1, 0] rfl)
    exact hL19 600 _ _  H locs ls h9 hw (lv_sub hl [2, 3, 1, 0] rfl)
  have hL6 : ∀ (n9 : Nat) (v3 : Int32) (σ4 : vSt), ∀ (H : Heap) (locs : List Loc) (ls : Array Slot), f_X7_joins_7 v1 n9 v3 σ4 = some φ8 → PW K 12 ad (cM K ad) A s.heap σ4 H locs → lv_has ls 6 [(0, .ref (ad 0)), (1, .int v1), (2, .int v3)] → W p l e (rmF 4 69) s m args below meth c H locs 0 0 Q (F0 m 7 ls []) := by
    intro n9
    induction n9 with
    | zero => intro v3 σ4 H locs ls h hw hl; rw [f_X7_joins_7.eq_1] at h; exact it_n h
    | succ n9 ih =>
      intro v3 σ4 H locs ls h hw hl
      rw [f_X7_joins_7.eq_2] at h
      refine lv_iload_n hx hb dX7_joins_7 rfl (lv_at hl 2 rfl) ?_
      refine lv_iload_n hx hb dX7_joins_8 rfl (lv_at hl 1 rfl) ?_
      refine lv_icmp_ge (tgt := 39) hx hb dX7_joins_9 (by decide) (fun c9 => ?_) (fun c9 => ?_)
      · replace h := it_t c9 h
        have e9 := Option.some.inj h
        subst e9
        exact hJ7 _ rfl  H locs ls hw (lv_sub hl [0, 1] rfl)
      · replace h := it_f c9 h
        refine lv_aload_n hx hb dX7_joins_12 rfl (lv_at hl 0 rfl) ?_
        refine gM_0_5 hx_E hw fl_X7_19 dX7_joins_13 ?_
        refine lv_iload_n hx hb dX7_joins_16 rfl (lv_at hl 2 rfl) ?_
        refine lv_iload_n hx hb dX7_joins_17 rfl (lv_at hl 2 rfl) ?_
        obtain ⟨g10, h⟩ := it_g h
        refine sM_4 hx_E hw g10 dX7_joins_18 (fun H locs hw => ?_)
        refine lv_aload_n hx hb dX7_joins_19 rfl (lv_at hl 0 rfl) ?_
        refine gM_0_6 hx_E hw fl_X7_22 dX7_joins_20 ?_
        refine lv_iload_n hx hb dX7_joins_23 rfl (lv_at hl 2 rfl) ?_
        refine lv_iconst (v := 0) hx hb dX7_joins_24 (by decide) ?_
        obtain ⟨g11, h⟩ := it_g h
        refine sM_5 hx_E hw g11 dX7_joins_25 (fun H locs hw => ?_)
        refine lv_aload_n hx hb dX7_joins_26 rfl (lv_at hl 0 rfl) ?_
        refine gM_0_7 hx_E hw fl_X7_25 dX7_joins_27 ?_
        refine lv_iload_n hx hb dX7_joins_30 rfl (lv_at hl 2 rfl) ?_
        refine lv_iconst (v := 0) hx hb dX7_joins_31 (by decide) ?_
        obtain ⟨g12, h⟩ := it_g h
        refine sM_6 hx_E hw g12 dX7_joins_32 (fun H locs hw => ?_)
        refine lv_iinc (v := (v3 + 1)) (lv' := [(2, .int (v3 + 1)), (0, .ref (ad 0)), (1, .int v1)]) hx hb dX7_joins_33 hl (k := 2) rfl rfl (by decide) rfl (fun ls hl => ?_)
        refine lv_goto (tgt := 7) hx hb dX7_joins_36 (by decide) ?_
        exact ih _ _  H locs ls h hw (lv_sub hl [1, 2, 0] rfl)
  exact hL6 600 _ _  H locs ls h9 hw (lv_sub hl [2, 1, 0] rfl)
set_option maxHeartbeats 4000000 in
set_option maxRecDepth 100000 in
theorem c_X7_isRing (l : Launch) (K : vK) (ad : Nat → Nat) (hI : adInj 12 ad) (l1 : Int32) (σ : vSt) {r : Int32} (h : f_X7_isRing l1 σ = some r) : MCz l yX7_isRing (wsY yX7_isRing cX7_isRing 2 (some .boolean)) (rmF 1 0) K 12 ad (cM K ad) [.ref (ad 0), .int l1] σ r σ := by
  refine MCz_of (own := RX7) (plainFor_of_name (by decide)) hI rfl (Nat.le_of_ble_eq_true rfl) ?_
  intro p e s m args below meth c A Q hx_E hE H locs ls hw hl
  have hx := hx_E.1; have hb := hx_E.2.1; have hown := hx_E.2.2.2.1; have hts := hx_E.2.2.2.2.1
  replace hl : lv_has ls 2 [(0, .ref (ad 0)), (1, .int l1)] := hl
  unfold f_X7_isRing at h
  refine lv_aload_n hx hb dX7_isRing_0 rfl (lv_at hl 0 rfl) ?_
  refine gM_0_6 hx_E hw fl_X7_22 dX7_isRing_1 ?_
  refine lv_iload_n hx hb dX7_isRing_4 rfl (lv_at hl 1 rfl) ?_
  obtain ⟨g1, h⟩ := it_g h
  refine aM_5 hx_E hw g1 dX7_isRing_5 ?_
  refine lv_if_le (tgt := 22) hx hb dX7_isRing_6 (by decide) (fun c2 => ?_) (fun c2 => ?_)
  · replace h := it_t c2 h
    refine lv_iconst (v := 0) hx hb dX7_isRing_22 (by decide) ?_
    exact hE hw (Option.some.inj h) rfl (Or.inl rfl) dX7_isRing_23
  · replace h := it_f c2 h
    refine lv_aload_n hx hb dX7_isRing_9 rfl (lv_at hl 0 rfl) ?_
    refine gM_0_7 hx_E hw fl_X7_25 dX7_isRing_10 ?_
    refine lv_iload_n hx hb dX7_isRing_13 rfl (lv_at hl 1 rfl) ?_
    obtain ⟨g3, h⟩ := it_g h
    refine aM_6 hx_E hw g3 dX7_isRing_14 ?_
    refine lv_if_ne (tgt := 22) hx hb dX7_isRing_15 (by decide) (fun c4 => ?_) (fun c4 => ?_)
    · replace h := it_f c4 h
      refine lv_iconst (v := 0) hx hb dX7_isRing_22 (by decide) ?_
      exact hE hw (Option.some.inj h) rfl (Or.inl rfl) dX7_isRing_23
    · replace h := it_t c4 h
      refine lv_iconst (v := 1) hx hb dX7_isRing_18 (by decide) ?_
      refine lv_goto (tgt := 23) hx hb dX7_isRing_19 (by decide) ?_
      exact hE hw (Option.some.inj h) rfl (Or.inr rfl) dX7_isRing_23
