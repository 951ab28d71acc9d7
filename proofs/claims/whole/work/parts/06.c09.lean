set_option maxHeartbeats 4000000 in
set_option maxRecDepth 100000 in
theorem c_X7_node (l : Launch) (K : vK) (ad : Nat → Nat) (hI : adInj 12 ad) (σ : vSt) {r : Int32} {σ' : vSt} (h : f_X7_node σ = some (r, σ')) : MCi l yX7_node (wsY yX7_node cX7_node 2 (some .int)) (rmF 8 161) K 12 ad (cM K ad) [.ref (ad 0)] σ r σ' := by
  refine MCi_of (own := RX7) (plainFor_of_name (by decide)) hI rfl (Nat.le_of_ble_eq_true rfl) ?_
  intro p e s m args below meth c A Q hx_E hE H locs ls hw hl
  have hx := hx_E.1; have hb := hx_E.2.1; have hown := hx_E.2.2.2.1; have hts := hx_E.2.2.2.2.1
  replace hl : lv_has ls 2 [(0, .ref (ad 0))] := hl
  unfold f_X7_node at h
  obtain ⟨φ5, h9, h_φ5⟩ := it_b h
  have hJ4 : ∀ (σ2 : vSt), σ2 = φ5 → ∀ (H : Heap) (locs : List Loc) (ls : Array Slot), PW K 12 ad (cM K ad) A s.heap σ2 H locs → lv_has ls 2 [(0, .ref (ad 0))] → W p l e (rmF 8 161) s m args below meth c H locs 0 0 Q (F0 m 15 ls []) := by
    intro σ2 e9 H locs ls hw hl
    subst e9
    replace h := h_φ5
    refine lv_aload_n hx hb dX7_node_15 rfl (lv_at hl 0 rfl) ?_
    obtain ⟨⟨v13, σ14⟩, k15, h⟩ := it_b h
    refine kV_z (As := []) (rest := []) (q := 0) hx_E hw (c_X7_fits l K ad hI   σ2 k15) mi_X7_fits mv_X7_fits ml_X7_137 (by decide) rfl rfl rfl ⟨⟨Nat.le_of_ble_eq_true rfl, Nat.le_of_ble_eq_true rfl⟩, rfl, rfl⟩ ⟨Nat.zero_le _, Nat.zero_le _⟩ hl.1 rfl (Nat.le_of_ble_eq_true rfl) dX7_node_16 (fun z16 H locs hw => ?_)
    refine lv_if_ne (tgt := 24) hx hb dX7_node_19 (by decide) (fun c17 => ?_) (fun c17 => ?_)
    · replace h := it_f c17 h
      refine lv_aload_n hx hb dX7_node_24 rfl (lv_at hl 0 rfl) ?_
      refine gM_0_12 hx_E hw fl_X7_97 dX7_node_25 ?_
      refine lv_if_eq (tgt := 88) hx hb dX7_node_28 (by decide) (fun c18 => ?_) (fun c18 => ?_)
      · replace h := it_t c18 h
        refine lv_iconst (v := 0) hx hb dX7_node_88 (by decide) ?_
        refine lv_istore_n (lv' := [(1, .int (0 : Int32)), (0, .ref (ad 0))]) hx hb dX7_node_89 rfl hl (by decide) rfl (fun ls hl => ?_)
        obtain ⟨φ23, h9, h_φ23⟩ := it_b h
        have hJ22 : ∀ (v20 : Int32), v20 = φ23 → ∀ (H : Heap) (locs : List Loc) (ls : Array Slot), PW K 12 ad (cM K ad) A s.heap σ14 H locs → lv_has ls 2 [(0, .ref (ad 0)), (1, .int v20)] → W p l e (rmF 8 161) s m args below meth c H locs 0 0 Q (F0 m 112 ls []) := by
          intro v20 e9 H locs ls hw hl
          subst e9
          replace h := h_φ23
          refine lv_iload_n hx hb dX7_node_112 rfl (lv_at hl 1 rfl) ?_
          refine lv_aload_n hx hb dX7_node_113 rfl (lv_at hl 0 rfl) ?_
          obtain ⟨v30, k31, h⟩ := it_b h
          refine kV_i (As := []) (rest := [.int v20]) (q := 0) hx_E hw (c_X7_edges l K ad hI   σ14 k31) mi_X7_edges mv_X7_edges ml_X7_69 (by decide) rfl rfl rfl ⟨⟨Nat.le_of_ble_eq_true rfl, Nat.le_of_ble_eq_true rfl⟩, rfl, rfl⟩ ⟨Nat.zero_le _, Nat.zero_le _⟩ hl.1 rfl (Nat.le_of_ble_eq_true rfl) dX7_node_114 (fun H locs hw => ?_)
          refine lv_icmp_ge (tgt := 124) hx hb dX7_node_117 (by decide) (fun c32 => ?_) (fun c32 => ?_)
          · replace h := it_t c32 h
            refine lv_iconst (v := -1) hx hb dX7_node_124 (by decide) ?_
            exact hE hw (congrArg Prod.fst (Option.some.inj h)) (congrArg Prod.snd (Option.some.inj h)) dX7_node_125
          · replace h := it_f c32 h
            refine lv_iload_n hx hb dX7_node_120 rfl (lv_at hl 1 rfl) ?_
            refine lv_goto (tgt := 125) hx hb dX7_node_121 (by decide) ?_
            exact hE hw (congrArg Prod.fst (Option.some.inj h)) (congrArg Prod.snd (Option.some.inj h)) dX7_node_125
        have hL21 : ∀ (n9 : Nat) (v19 : Int32), ∀ (H : Heap) (locs : List Loc) (ls : Array Slot), f_X7_node_90 σ14 n9 v19 = some φ23 → PW K 12 ad (cM K ad) A s.heap σ14 H locs → lv_has ls 2 [(0, .ref (ad 0)), (1, .int v19)] → W p l e (rmF 8 161) s m args below meth c H locs 0 0 Q (F0 m 90 ls []) := by
          intro n9
          induction n9 with
          | zero => intro v19 H locs ls h hw hl; rw [f_X7_node_90.eq_1] at h; exact it_n h
          | succ n9 ih =>
            intro v19 H locs ls h hw hl
            rw [f_X7_node_90.eq_2] at h
            refine lv_iload_n hx hb dX7_node_90 rfl (lv_at hl 1 rfl) ?_
            refine lv_aload_n hx hb dX7_node_91 rfl (lv_at hl 0 rfl) ?_
            obtain ⟨v24, k25, h⟩ := it_b h
            refine kV_i (As := []) (rest := [.int v19]) (q := 0) hx_E hw (c_X7_edges l K ad hI   σ14 k25) mi_X7_edges mv_X7_edges ml_X7_69 (by decide) rfl rfl rfl ⟨⟨Nat.le_of_ble_eq_true rfl, Nat.le_of_ble_eq_true rfl⟩, rfl, rfl⟩ ⟨Nat.zero_le _, Nat.zero_le _⟩ hl.1 rfl (Nat.le_of_ble_eq_true rfl) dX7_node_92 (fun H locs hw => ?_)
            refine lv_icmp_ge (tgt := 112) hx hb dX7_node_95 (by decide) (fun c26 => ?_) (fun c26 => ?_)
            · replace h := it_t c26 h
              have e9 := Option.some.inj h
              subst e9
              exact hJ22 _ rfl  H locs ls hw (lv_sub hl [0, 1] rfl)
            · replace h := it_f c26 h
              refine lv_aload_n hx hb dX7_node_98 rfl (lv_at hl 0 rfl) ?_
              refine lv_iload_n hx hb dX7_node_99 rfl (lv_at hl 1 rfl) ?_
              obtain ⟨v27, k28, h⟩ := it_b h
              refine kV_i (As := [.int v19]) (rest := []) (q := 0) hx_E hw (c_X7_markOf l K ad hI  v19 σ14 k28) mi_X7_markOf mv_X7_markOf ml_X7_56 (by decide) rfl rfl rfl ⟨⟨Nat.le_of_ble_eq_true rfl, Nat.le_of_ble_eq_true rfl⟩, rfl, rfl⟩ ⟨Nat.zero_le _, Nat.zero_le _⟩ hl.1 rfl (Nat.le_of_ble_eq_true rfl) dX7_node_100 (fun H locs hw => ?_)
              refine lv_if_eq (tgt := 112) hx hb dX7_node_103 (by decide) (fun c29 => ?_) (fun c29 => ?_)
              · replace h := it_t c29 h
                have e9 := Option.some.inj h
                subst e9
                exact hJ22 _ rfl  H locs ls hw (lv_sub hl [0, 1] rfl)
              · replace h := it_f c29 h
                refine lv_iinc (v := (v19 + 1)) (lv' := [(1, .int (v19 + 1)), (0, .ref (ad 0))]) hx hb dX7_node_106 hl (k := 1) rfl rfl (by decide) rfl (fun ls hl => ?_)
                refine lv_goto (tgt := 90) hx hb dX7_node_109 (by decide) ?_
                exact ih _   H locs ls h hw (lv_sub hl [1, 0] rfl)
        exact hL21 600 _  H locs ls h9 hw (lv_sub hl [1, 0] rfl)
      · replace h := it_f c18 h
        refine lv_iconst (v := 0) hx hb dX7_node_31 (by decide) ?_
        refine lv_istore_n (lv' := [(1, .int (0 : Int32)), (0, .ref (ad 0))]) hx hb dX7_node_32 rfl hl (by decide) rfl (fun ls hl => ?_)
        obtain ⟨φ38, h9, h_φ38⟩ := it_b h
        have hJ37 : ∀ (σ35 : vSt), σ35 = φ38 → ∀ (H : Heap) (locs : List Loc) (ls : Array Slot), PW K 12 ad (cM K ad) A s.heap σ35 H locs → lv_has ls 2 [(0, .ref (ad 0))] → W p l e (rmF 8 161) s m args below meth c H locs 0 0 Q (F0 m 76 ls []) := by
          intro σ35 e9 H locs ls hw hl
          subst e9
          replace h := h_φ38
          refine lv_aload_n hx hb dX7_node_76 rfl (lv_at hl 0 rfl) ?_
          refine lv_dup hx hb dX7_node_77 rfl ?_
          refine gM_0_27 hx_E hw fl_X7_199 dX7_node_78 ?_
          refine lv_iconst (v := 1) hx hb dX7_node_81 (by decide) ?_
          refine lv_iadd hx hb dX7_node_82 ?_
          refine pM_0_27 hx_E hw fl_X7_199 dX7_node_83 (fun H locs hw => ?_)
          refine lv_iconst (v := -1) hx hb dX7_node_86 (by decide) ?_
          exact hE hw (congrArg Prod.fst (Option.some.inj h)) (congrArg Prod.snd (Option.some.inj h)) dX7_node_87
        have hL36 : ∀ (n9 : Nat) (v33 : Int32) (σ34 : vSt), ∀ (H : Heap) (locs : List Loc) (ls : Array Slot), f_X7_node_33  n9 v33 σ34 = some φ38 → PW K 12 ad (cM K ad) A s.heap σ34 H locs → lv_has ls 2 [(0, .ref (ad 0)), (1, .int v33)] → W p l e (rmF 8 161) s m args below meth c H locs 0 0 Q (F0 m 33 ls []) := by
          intro n9
          induction n9 with
          | zero => intro v33 σ34 H locs ls h hw hl; rw [f_X7_node_33.eq_1] at h; exact it_n h
          | succ n9 ih =>
            intro v33 σ34 H locs ls h hw hl
            rw [f_X7_node_33.eq_2] at h
            refine lv_iload_n hx hb dX7_node_33 rfl (lv_at hl 1 rfl) ?_
            refine lv_bipush (v := 40) hx hb dX7_node_34 (by decide) ?_
            refine lv_icmp_ge (tgt := 76) hx hb dX7_node_36 (by decide) (fun c39 => ?_) (fun c39 => ?_)
            · replace h := it_t c39 h
              have e9 := Option.some.inj h
              subst e9
              exact hJ37 _ rfl  H locs ls hw (lv_sub hl [0] rfl)
            · replace h := it_f c39 h
              refine lv_aload_n hx hb dX7_node_39 rfl (lv_at hl 0 rfl) ?_
              refine gM_0_27 hx_E hw fl_X7_199 dX7_node_40 ?_
              refine lv_if_ne (tgt := 76) hx hb dX7_node_43 (by decide) (fun c40 => ?_) (fun c40 => ?_)
              · replace h := it_f c40 h
                have e9 := Option.some.inj h
                subst e9
                exact hJ37 _ rfl  H locs ls hw (lv_sub hl [0] rfl)
              · replace h := it_t c40 h
                refine lv_aload_n hx hb dX7_node_46 rfl (lv_at hl 0 rfl) ?_
                refine gM_0_25 hx_E hw fl_X7_41 dX7_node_47 ?_
                refine lv_iload_n hx hb dX7_node_50 rfl (lv_at hl 1 rfl) ?_
                refine lv_aload_n hx hb dX7_node_51 rfl (lv_at hl 0 rfl) ?_
                refine gM_0_0 hx_E hw fl_X7_7 dX7_node_52 ?_
                refine lv_bipush (v := 18) hx hb dX7_node_55 (by decide) ?_
                refine lv_iload_n hx hb dX7_node_57 rfl (lv_at hl 1 rfl) ?_
                refine lv_iadd hx hb dX7_node_58 ?_
                obtain ⟨g41, h⟩ := it_g h
                refine aM_1 hx_E hw g41 dX7_node_59 ?_
                refine lv_iconst (v := 1) hx hb dX7_node_60 (by decide) ?_
                refine lv_icmp_ne (tgt := 68) hx hb dX7_node_61 (by decide) (fun c42 => ?_) (fun c42 => ?_)
                · replace h := it_f c42 h
                  refine lv_iconst (v := 0) hx hb dX7_node_68 (by decide) ?_
                  obtain ⟨g43, h⟩ := it_g h
                  refine sM_11 hx_E hw g43 dX7_node_69 (fun H locs hw => ?_)
                  refine lv_iinc (v := (v33 + 1)) (lv' := [(1, .int (v33 + 1)), (0, .ref (ad 0))]) hx hb dX7_node_70 hl (k := 1) rfl rfl (by decide) rfl (fun ls hl => ?_)
                  refine lv_goto (tgt := 33) hx hb dX7_node_73 (by decide) ?_
                  exact ih _ _  H locs ls h hw (lv_sub hl [1, 0] rfl)
                · replace h := it_t c42 h
                  refine lv_iconst (v := 1) hx hb dX7_node_64 (by decide) ?_
                  refine lv_goto (tgt := 69) hx hb dX7_node_65 (by decide) ?_
                  obtain ⟨g44, h⟩ := it_g h
                  refine sM_11 hx_E hw g44 dX7_node_69 (fun H locs hw => ?_)
                  refine lv_iinc (v := (v33 + 1)) (lv' := [(1, .int (v33 + 1)), (0, .ref (ad 0))]) hx hb dX7_node_70 hl (k := 1) rfl rfl (by decide) rfl (fun ls hl => ?_)
                  refine lv_goto (tgt := 33) hx hb dX7_node_73 (by decide) ?_
                  exact ih _ _  H locs ls h hw (lv_sub hl [1, 0] rfl)
        exact hL36 600 _ _  H locs ls h9 hw (lv_sub hl [1, 0] rfl)
    · replace h := it_t c17 h
      refine lv_iconst (v := -1) hx hb dX7_node_22 (by decide) ?_
      exact hE hw (congrArg Prod.fst (Option.some.inj h)) (congrArg Prod.snd (Option.some.inj h)) dX7_node_23
  have hL3 : ∀ (n9 : Nat) (σ1 : vSt), ∀ (H : Heap) (locs : List Loc) (ls : Array Slot), f_X7_node_0  n9 σ1 = some φ5 → PW K 12 ad (cM K ad) A s.heap σ1 H locs → lv_has ls 2 [(0, .ref (ad 0))] → W p l e (rmF 8 161) s m args below meth c H locs 0 0 Q (F0 m 0 ls []) := by
    intro n9
    induction n9 with
    | zero => intro σ1 H locs ls h hw hl; rw [f_X7_node_0.eq_1] at h; exact it_n h
    | succ n9 ih =>
      intro σ1 H locs ls h hw hl
      rw [f_X7_node_0.eq_2] at h
      refine lv_aload_n hx hb dX7_node_0 rfl (lv_at hl 0 rfl) ?_
      refine lv_iconst (v := 5) hx hb dX7_node_1 (by decide) ?_
      obtain ⟨⟨v6, σ7⟩, k8, h⟩ := it_b h
      refine kV_z (As := [.int (5 : Int32)]) (rest := []) (q := 0) hx_E hw (c_X7_findsPlain l K ad hI  (5 : Int32) σ1 k8) mi_X7_findsPlain mv_X7_findsPlain ml_X7_149 (by decide) rfl rfl rfl ⟨⟨Nat.le_of_ble_eq_true rfl, Nat.le_of_ble_eq_true rfl⟩, rfl, rfl⟩ ⟨Nat.zero_le _, Nat.zero_le _⟩ hl.1 rfl (Nat.le_of_ble_eq_true rfl) dX7_node_2 (fun z9 H locs hw => ?_)
      refine lv_if_eq (tgt := 15) hx hb dX7_node_5 (by decide) (fun c10 => ?_) (fun c10 => ?_)
      · replace h := it_t c10 h
        have e9 := Option.some.inj h
        subst e9
        exact hJ4 _ rfl  H locs ls hw (lv_sub hl [0] rfl)
      · replace h := it_f c10 h
        refine lv_aload_n hx hb dX7_node_8 rfl (lv_at hl 0 rfl) ?_
        obtain ⟨σ11, k12, h⟩ := it_b h
        refine kV_v (As := []) (rest := []) (q := 0) hx_E hw (c_X7_makes l K ad hI   σ7 k12) mi_X7_makes mv_X7_makes ml_X7_152 (by decide) rfl rfl rfl ⟨⟨Nat.le_of_ble_eq_true rfl, Nat.le_of_ble_eq_true rfl⟩, rfl, rfl⟩ ⟨Nat.zero_le _, Nat.zero_le _⟩ hl.1 rfl (Nat.le_of_ble_eq_true rfl) dX7_node_9 (fun H locs hw => ?_)
        refine lv_goto (tgt := 0) hx hb dX7_node_12 (by decide) ?_
        exact ih  _  H locs ls h hw (lv_sub hl [0] rfl)
  exact hL3 600 _  H locs ls h9 hw (lv_sub hl [0] rfl)
set_option maxHeartbeats 4000000 in
set_option maxRecDepth 100000 in
theorem c_X7_searches (l : Launch) (K : vK) (ad : Nat → Nat) (hI : adInj 12 ad) (l1 : Int32) (σ : vSt) {σ' : vSt} (h : f_X7_searches l1 σ = some σ') : MCv l yX7_searches (wsY yX7_searches cX7_searches 4 none) (rmF 9 182) K 12 ad (cM K ad) [.ref (ad 0), .int l1] σ σ' := by
  refine MCv_of (own := RX7) (plainFor_of_name (by decide)) hI rfl (Nat.le_of_ble_eq_true rfl) ?_
  intro p e s m args below meth c A Q hx_E hE H locs ls hw hl
  have hx := hx_E.1; have hb := hx_E.2.1; have hown := hx_E.2.2.2.1; have hts := hx_E.2.2.2.2.1
  replace hl : lv_has ls 4 [(0, .ref (ad 0)), (1, .int l1)] := hl
  unfold f_X7_searches at h
  refine lv_iconst (v := 0) hx hb dX7_searches_0 (by decide) ?_
  refine lv_istore_n (lv' := [(2, .int (0 : Int32)), (0, .ref (ad 0)), (1, .int l1)]) hx hb dX7_searches_1 rfl hl (by decide) rfl (fun ls hl => ?_)
  obtain ⟨φ6, h9, h_φ6⟩ := it_b h
  have hJ5 : ∀ (σ3 : vSt), σ3 = φ6 → ∀ (H : Heap) (locs : List Loc) (ls : Array Slot), PW K 12 ad (cM K ad) A s.heap σ3 H locs → lv_has ls 4 [(0, .ref (ad 0)), (1, .int l1)] → W p l e (rmF 9 182) s m args below meth c H locs 0 0 Q (F0 m 29 ls []) := by
    intro σ3 e9 H locs ls hw hl
    subst e9
    replace h := h_φ6
    refine lv_aload_n hx hb dX7_searches_29 rfl (lv_at hl 0 rfl) ?_
    refine lv_iconst (v := 0) hx hb dX7_searches_30 (by decide) ?_
    refine pM_0_26 hx_E hw fl_X7_202 dX7_searches_31 (fun H locs hw => ?_)
    refine lv_aload_n hx hb dX7_searches_34 rfl (lv_at hl 0 rfl) ?_
    refine lv_iconst (v := 0) hx hb dX7_searches_35 (by decide) ?_
    refine pM_0_27 hx_E hw fl_X7_199 dX7_searches_36 (fun H locs hw => ?_)
    refine lv_aload_n hx hb dX7_searches_39 rfl (lv_at hl 0 rfl) ?_
    refine lv_iconst (v := 0) hx hb dX7_searches_40 (by decide) ?_
    refine pM_0_28 hx_E hw (Or.inl rfl) fl_X7_205 dX7_searches_41 (fun H locs hw => ?_)
    refine lv_aload_n hx hb dX7_searches_44 rfl (lv_at hl 0 rfl) ?_
    refine lv_iconst (v := 0) hx hb dX7_searches_45 (by decide) ?_
    obtain ⟨σ10, k11, h⟩ := it_b h
    refine kV_v (As := [.int (0 : Int32)]) (rest := []) (q := 0) hx_E hw (c_X7_puts l K ad hI  (0 : Int32) (sI (sI (sI σ3 0 26 (0 : Int32)) 0 27 (0 : Int32)) 0 28 (0 : Int32)) k11) mi_X7_puts mv_X7_puts ml_X7_208 (by decide) rfl rfl rfl ⟨⟨Nat.le_of_ble_eq_true rfl, Nat.le_of_ble_eq_true rfl⟩, rfl, rfl⟩ ⟨Nat.zero_le _, Nat.zero_le _⟩ hl.1 rfl (Nat.le_of_ble_eq_true rfl) dX7_searches_46 (fun H locs hw => ?_)
    refine lv_iconst (v := 1) hx hb dX7_searches_49 (by decide) ?_
    refine lv_istore_n (lv' := [(2, .int (1 : Int32)), (0, .ref (ad 0)), (1, .int l1)]) hx hb dX7_searches_50 rfl hl (by decide) rfl (fun ls hl => ?_)
    obtain ⟨φ17, h9, h_φ17⟩ := it_b h
    have hJ16 : ∀ (σ14 : vSt), σ14 = φ17 → ∀ (H : Heap) (locs : List Loc) (ls : Array Slot), PW K 12 ad (cM K ad) A s.heap σ14 H locs → lv_has ls 4 [(0, .ref (ad 0))] → W p l e (rmF 9 182) s m args below meth c H locs 0 0 Q (F0 m 162 ls []) := by
      intro σ14 e9 H locs ls hw hl
      subst e9
      replace h := h_φ17
      refine lv_iconst (v := 0) hx hb dX7_searches_162 (by decide) ?_
      refine lv_istore_n (lv' := [(3, .int (0 : Int32)), (0, .ref (ad 0))]) hx hb dX7_searches_163 rfl hl (by decide) rfl (fun ls hl => ?_)
      obtain ⟨φ43, h9, h_φ43⟩ := it_b h
      have hJ42 : ∀ (σ40 : vSt), σ40 = φ43 → ∀ (H : Heap) (locs : List Loc) (ls : Array Slot), PW K 12 ad (cM K ad) A s.heap σ40 H locs → lv_has ls 4 [] → W p l e (rmF 9 182) s m args below meth c H locs 0 0 Q (F0 m 191 ls []) := by
        intro σ40 e9 H locs ls hw hl
        subst e9
        replace h := h_φ43
        exact hE hw (Option.some.inj h) dX7_searches_191
      have hL41 : ∀ (n9 : Nat) (v38 : Int32) (σ39 : vSt), ∀ (H : Heap) (locs : List Loc) (ls : Array Slot), f_X7_searches_164  n9 v38 σ39 = some φ43 → PW K 12 ad (cM K ad) A s.heap σ39 H locs → lv_has ls 4 [(0, .ref (ad 0)), (3, .int v38)] → W p l e (rmF 9 182) s m args below meth c H locs 0 0 Q (F0 m 164 ls []) := by
        intro n9
        induction n9 with
        | zero => intro v38 σ39 H locs ls h hw hl; rw [f_X7_searches_164.eq_1] at h; exact it_n h
        | succ n9 ih =>
          intro v38 σ39 H locs ls h hw hl
          rw [f_X7_searches_164.eq_2] at h
          refine lv_iload_n hx hb dX7_searches_164 rfl (lv_at hl 1 rfl) ?_
          refine lv_bipush (v := 40) hx hb dX7_searches_165 (by decide) ?_
          refine lv_icmp_ge (tgt := 191) hx hb dX7_searches_167 (by decide) (fun c44 => ?_) (fun c44 => ?_)
          · replace h := it_t c44 h
            have e9 := Option.some.inj h
            subst e9
            exact hJ42 _ rfl  H locs ls hw (lv_sub hl [] rfl)
          · replace h := it_f c44 h
            refine lv_aload_n hx hb dX7_searches_170 rfl (lv_at hl 0 rfl) ?_
            refine gM_0_0 hx_E hw fl_X7_7 dX7_searches_171 ?_
            refine lv_bipush (v := 18) hx hb dX7_searches_174 (by decide) ?_
            refine lv_iload_n hx hb dX7_searches_176 rfl (lv_at hl 1 rfl) ?_
            refine lv_iadd hx hb dX7_searches_177 ?_
            refine lv_aload_n hx hb dX7_searches_178 rfl (lv_at hl 0 rfl) ?_
            refine gM_0_24 hx_E hw fl_X7_38 dX7_searches_179 ?_
            refine lv_iload_n hx hb dX7_searches_182 rfl (lv_at hl 1 rfl) ?_
            obtain ⟨g45, h⟩ := it_g h
            refine aM_10 hx_E hw g45 dX7_searches_183 ?_
            obtain ⟨g46, h⟩ := it_g h
            refine sM_1 hx_E hw g46 dX7_searches_184 (fun H locs hw => ?_)
            refine lv_iinc (v := (v38 + 1)) (lv' := [(3, .int (v38 + 1)), (0, .ref (ad 0))]) hx hb dX7_searches_185 hl (k := 1) rfl rfl (by decide) rfl (fun ls hl => ?_)
            refine lv_goto (tgt := 164) hx hb dX7_searches_188 (by decide) ?_
            exact ih _ _  H locs ls h hw (lv_sub hl [1, 0] rfl)
      exact hL41 600 _ _  H locs ls h9 hw (lv_sub hl [1, 0] rfl)
    have hL15 : ∀ (n9 : Nat) (v12 : Int32) (σ13 : vSt), ∀ (H : Heap) (locs : List Loc) (ls : Array Slot), f_X7_searches_51 l1 n9 v12 σ13 = some φ17 → PW K 12 ad (cM K ad) A s.heap σ13 H locs → lv_has ls 4 [(0, .ref (ad 0)), (1, .int l1), (2, .int v12)] → W p l e (rmF 9 182) s m args below meth c H locs 0 0 Q (F0 m 51 ls []) := by
      intro n9
      induction n9 with
      | zero => intro v12 σ13 H locs ls h hw hl; rw [f_X7_searches_51.eq_1] at h; exact it_n h
      | succ n9 ih =>
        intro v12 σ13 H locs ls h hw hl
        rw [f_X7_searches_51.eq_2] at h
        refine lv_iload_n hx hb dX7_searches_51 rfl (lv_at hl 2 rfl) ?_
        refine lv_if_le (tgt := 162) hx hb dX7_searches_52 (by decide) (fun c18 => ?_) (fun c18 => ?_)
        · replace h := it_t c18 h
          have e9 := Option.some.inj h
          subst e9
          exact hJ16 _ rfl  H locs ls hw (lv_sub hl [0] rfl)
        · replace h := it_f c18 h
          refine lv_aload_n hx hb dX7_searches_55 rfl (lv_at hl 0 rfl) ?_
          refine gM_0_27 hx_E hw fl_X7_199 dX7_searches_56 ?_
          refine lv_iload_n hx hb dX7_searches_59 rfl (lv_at hl 1 rfl) ?_
          refine lv_icmp_ge (tgt := 162) hx hb dX7_searches_60 (by decide) (fun c19 => ?_) (fun c19 => ?_)
          · replace h := it_t c19 h
            have e9 := Option.some.inj h
            subst e9
            exact hJ16 _ rfl  H locs ls hw (lv_sub hl [0] rfl)
          · replace h := it_f c19 h
            refine lv_aload_n hx hb dX7_searches_63 rfl (lv_at hl 0 rfl) ?_
            refine gM_0_28 hx_E hw fl_X7_205 dX7_searches_64 ?_
            refine lv_if_ne (tgt := 162) hx hb dX7_searches_67 (by decide) (fun c20 => ?_) (fun c20 => ?_)
            · replace h := it_f c20 h
              have e9 := Option.some.inj h
              subst e9
              exact hJ16 _ rfl  H locs ls hw (lv_sub hl [0] rfl)
            · replace h := it_t c20 h
              refine lv_aload_n hx hb dX7_searches_70 rfl (lv_at hl 0 rfl) ?_
              refine lv_aload_n hx hb dX7_searches_71 rfl (lv_at hl 0 rfl) ?_
              refine gM_0_26 hx_E hw fl_X7_202 dX7_searches_72 ?_
              refine lv_sipush (v := 200) hx hb dX7_searches_75 (by decide) ?_
              obtain ⟨φ24, h9, h_φ24⟩ := it_b h
              have hJ23 : ∀ (v22 : Int32), v22 = φ24 → (v22 = 0 ∨ v22 = 1) → ∀ (H : Heap) (locs : List Loc) (ls : Array Slot), PW K 12 ad (cM K ad) A s.heap σ13 H locs → lv_has ls 4 [(0, .ref (ad 0)), (1, .int l1), (2, .int v12)] → W p l e (rmF 9 182) s m args below meth c H locs 0 0 Q (F0 m 86 ls [.int v22, .ref (ad 0)]) := by
                intro v22 e9 z_v22 H locs ls hw hl
                subst e9
                replace h := h_φ24
                refine pM_0_28 hx_E hw z_v22 fl_X7_205 dX7_searches_86 (fun H locs hw => ?_)
                refine lv_aload_n hx hb dX7_searches_89 rfl (lv_at hl 0 rfl) ?_
                refine gM_0_28 hx_E hw fl_X7_205 dX7_searches_90 ?_
                refine lv_if_ne (tgt := 51) hx hb dX7_searches_93 (by decide) (fun c25 => ?_) (fun c25 => ?_)
                · replace h := it_f c25 h
                  exact ih _ _  H locs ls h hw (lv_sub hl [0, 1, 2] rfl)
                · replace h := it_t c25 h
                  refine lv_iinc (v := (v12 + (-1))) (lv' := [(2, .int (v12 + (-1))), (0, .ref (ad 0)), (1, .int l1)]) hx hb dX7_searches_96 hl (k := 2) rfl rfl (by decide) rfl (fun ls hl => ?_)
                  refine lv_aload_n hx hb dX7_searches_99 rfl (lv_at hl 1 rfl) ?_
                  refine lv_dup hx hb dX7_searches_100 rfl ?_
                  refine gM_0_26 hx_E hw fl_X7_202 dX7_searches_101 ?_
                  refine lv_iconst (v := 1) hx hb dX7_searches_104 (by decide) ?_
                  refine lv_iadd hx hb dX7_searches_105 ?_
                  refine pM_0_26 hx_E hw fl_X7_202 dX7_searches_106 (fun H locs hw => ?_)
                  refine lv_aload_n hx hb dX7_searches_109 rfl (lv_at hl 1 rfl) ?_
                  refine lv_iload_n hx hb dX7_searches_110 rfl (lv_at hl 0 rfl) ?_
                  obtain ⟨σ26, k27, h⟩ := it_b h
                  refine kV_v (As := [.int (v12 + (-1))]) (rest := []) (q := 0) hx_E hw (c_X7_takes l K ad hI  (v12 + (-1)) (sI (sI σ13 0 28 v22) 0 26 ((gI (sI σ13 0 28 v22) 0 26) + (1 : Int32))) k27) mi_X7_takes mv_X7_takes ml_X7_212 (by decide) rfl rfl rfl ⟨⟨Nat.le_of_ble_eq_true rfl, Nat.le_of_ble_eq_true rfl⟩, rfl, rfl⟩ ⟨Nat.zero_le _, Nat.zero_le _⟩ hl.1 rfl (Nat.le_of_ble_eq_true rfl) dX7_searches_111 (fun H locs hw => ?_)
                  refine lv_aload_n hx hb dX7_searches_114 rfl (lv_at hl 1 rfl) ?_
                  obtain ⟨⟨v28, σ29⟩, k30, h⟩ := it_b h
                  refine kV_i (As := []) (rest := []) (q := 0) hx_E hw (c_X7_node l K ad hI   σ26 k30) mi_X7_node mv_X7_node ml_X7_215 (by decide) rfl rfl rfl ⟨⟨Nat.le_of_ble_eq_true rfl, Nat.le_of_ble_eq_true rfl⟩, rfl, rfl⟩ ⟨Nat.zero_le _, Nat.zero_le _⟩ hl.1 rfl (Nat.le_of_ble_eq_true rfl) dX7_searches_115 (fun H locs hw => ?_)
                  refine lv_istore_n (lv' := [(3, .int v28), (2, .int (v12 + (-1))), (0, .ref (ad 0)), (1, .int l1)]) hx hb dX7_searches_118 rfl hl (by decide) rfl (fun ls hl => ?_)
                  refine lv_iload_n hx hb dX7_searches_119 rfl (lv_at hl 0 rfl) ?_
                  refine lv_iconst (v := -1) hx hb dX7_searches_120 (by decide) ?_
                  refine lv_icmp_eq (tgt := 159) hx hb dX7_searches_121 (by decide) (fun c31 => ?_) (fun c31 => ?_)
                  · replace h := it_t c31 h
                    refine lv_goto (tgt := 51) hx hb dX7_searches_159 (by decide) ?_
                    exact ih _ _  H locs ls h hw (lv_sub hl [2, 3, 1] rfl)
                  · replace h := it_f c31 h
                    refine lv_aload_n hx hb dX7_searches_124 rfl (lv_at hl 2 rfl) ?_
                    refine gM_0_0 hx_E hw fl_X7_7 dX7_searches_125 ?_
                    refine lv_bipush (v := 18) hx hb dX7_searches_128 (by decide) ?_
                    refine lv_iload_n hx hb dX7_searches_130 rfl (lv_at hl 0 rfl) ?_
                    refine lv_iadd hx hb dX7_searches_131 ?_
                    refine lv_iconst (v := 2) hx hb dX7_searches_132 (by decide) ?_
                    obtain ⟨g32, h⟩ := it_g h
                    refine sM_1 hx_E hw g32 dX7_searches_133 (fun H locs hw => ?_)
                    refine lv_aload_n hx hb dX7_searches_134 rfl (lv_at hl 2 rfl) ?_
                    refine lv_iload_n hx hb dX7_searches_135 rfl (lv_at hl 1 rfl) ?_
                    obtain ⟨σ33, k34, h⟩ := it_b h
                    refine kV_v (As := [.int (v12 + (-1))]) (rest := []) (q := 0) hx_E hw (c_X7_puts l K ad hI  (v12 + (-1)) (sI σ29 1 ((18 : Int32) + v28).toNatClampNeg (2 : Int32)) k34) mi_X7_puts mv_X7_puts ml_X7_208 (by decide) rfl rfl rfl ⟨⟨Nat.le_of_ble_eq_true rfl, Nat.le_of_ble_eq_true rfl⟩, rfl, rfl⟩ ⟨Nat.zero_le _, Nat.zero_le _⟩ hl.1 rfl (Nat.le_of_ble_eq_true rfl) dX7_searches_136 (fun H locs hw => ?_)
                    refine lv_aload_n hx hb dX7_searches_139 rfl (lv_at hl 2 rfl) ?_
                    refine gM_0_0 hx_E hw fl_X7_7 dX7_searches_140 ?_
                    refine lv_bipush (v := 18) hx hb dX7_searches_143 (by decide) ?_
                    refine lv_iload_n hx hb dX7_searches_145 rfl (lv_at hl 0 rfl) ?_
                    refine lv_iadd hx hb dX7_searches_146 ?_
                    refine lv_iconst (v := 1) hx hb dX7_searches_147 (by decide) ?_
                    obtain ⟨g35, h⟩ := it_g h
                    refine sM_1 hx_E hw g35 dX7_searches_148 (fun H locs hw => ?_)
                    refine lv_aload_n hx hb dX7_searches_149 rfl (lv_at hl 2 rfl) ?_
                    refine lv_iload_n hx hb dX7_searches_150 rfl (lv_at hl 1 rfl) ?_
                    refine lv_iconst (v := 1) hx hb dX7_searches_151 (by decide) ?_
                    refine lv_iadd hx hb dX7_searches_152 ?_
                    obtain ⟨σ36, k37, h⟩ := it_b h
                    refine kV_v (As := [.int ((v12 + (-1)) + (1 : Int32))]) (rest := []) (q := 0) hx_E hw (c_X7_puts l K ad hI  ((v12 + (-1)) + (1 : Int32)) (sI σ33 1 ((18 : Int32) + v28).toNatClampNeg (1 : Int32)) k37) mi_X7_puts mv_X7_puts ml_X7_208 (by decide) rfl rfl rfl ⟨⟨Nat.le_of_ble_eq_true rfl, Nat.le_of_ble_eq_true rfl⟩, rfl, rfl⟩ ⟨Nat.zero_le _, Nat.zero_le _⟩ hl.1 rfl (Nat.le_of_ble_eq_true rfl) dX7_searches_153 (fun H locs hw => ?_)
                    refine lv_iinc (v := ((v12 + (-1)) + 2)) (lv' := [(2, .int ((v12 + (-1)) + 2)), (3, .int v28), (0, .ref (ad 0)), (1, .int l1)]) hx hb dX7_searches_156 hl (k := 1) rfl rfl (by decide) rfl (fun ls hl => ?_)
                    refine lv_goto (tgt := 51) hx hb dX7_searches_159 (by decide) ?_
                    exact ih _ _  H locs ls h hw (lv_sub hl [2, 3, 0] rfl)
              replace h := h9
              refine lv_icmp_ne (tgt := 85) hx hb dX7_searches_78 (by decide) (fun c21 => ?_) (fun c21 => ?_)
              · replace h := it_f c21 h
                refine lv_iconst (v := 0) hx hb dX7_searches_85 (by decide) ?_
                have e9 := Option.some.inj h
                subst e9
                exact hJ23 _ rfl (Or.inl rfl) H locs ls hw (lv_sub hl [0, 1, 2] rfl)
              · replace h := it_t c21 h
                refine lv_iconst (v := 1) hx hb dX7_searches_81 (by decide) ?_
                refine lv_goto (tgt := 86) hx hb dX7_searches_82 (by decide) ?_
                have e9 := Option.some.inj h
                subst e9
                exact hJ23 _ rfl (Or.inr rfl) H locs ls hw (lv_sub hl [0, 1, 2] rfl)
    exact hL15 600 _ _  H locs ls h9 hw (lv_sub hl [1, 2, 0] rfl)
  have hL4 : ∀ (n9 : Nat) (v1 : Int32) (σ2 : vSt), ∀ (H : Heap) (locs : List Loc) (ls : Array Slot), f_X7_searches_2  n9 v1 σ2 = some φ6 → PW K 12 ad (cM K ad) A s.heap σ2 H locs → lv_has ls 4 [(0, .ref (ad 0)), (1, .int l1), (2, .int v1)] → W p l e (rmF 9 182) s m args below meth c H locs 0 0 Q (F0 m 2 ls []) := by
    intro n9
    induction n9 with
    | zero => intro v1 σ2 H locs ls h hw hl; rw [f_X7_searches_2.eq_1] at h; exact it_n h
    | succ n9 ih =>
      intro v1 σ2 H locs ls h hw hl
      rw [f_X7_searches_2.eq_2] at h
      refine lv_iload_n hx hb dX7_searches_2 rfl (lv_at hl 2 rfl) ?_
      refine lv_bipush (v := 40) hx hb dX7_searches_3 (by decide) ?_
      refine lv_icmp_ge (tgt := 29) hx hb dX7_searches_5 (by decide) (fun c7 => ?_) (fun c7 => ?_)
      · replace h := it_t c7 h
        have e9 := Option.some.inj h
        subst e9
        exact hJ5 _ rfl  H locs ls hw (lv_sub hl [0, 1] rfl)
      · replace h := it_f c7 h
        refine lv_aload_n hx hb dX7_searches_8 rfl (lv_at hl 0 rfl) ?_
        refine gM_0_24 hx_E hw fl_X7_38 dX7_searches_9 ?_
        refine lv_iload_n hx hb dX7_searches_12 rfl (lv_at hl 2 rfl) ?_
        refine lv_aload_n hx hb dX7_searches_13 rfl (lv_at hl 0 rfl) ?_
        refine gM_0_0 hx_E hw fl_X7_7 dX7_searches_14 ?_
        refine lv_bipush (v := 18) hx hb dX7_searches_17 (by decide) ?_
        refine lv_iload_n hx hb dX7_searches_19 rfl (lv_at hl 2 rfl) ?_
        refine lv_iadd hx hb dX7_searches_20 ?_
        obtain ⟨g8, h⟩ := it_g h
        refine aM_1 hx_E hw g8 dX7_searches_21 ?_
        obtain ⟨g9, h⟩ := it_g h
        refine sM_10 hx_E hw g9 dX7_searches_22 (fun H locs hw => ?_)
        refine lv_iinc (v := (v1 + 1)) (lv' := [(2, .int (v1 + 1)), (0, .ref (ad 0)), (1, .int l1)]) hx hb dX7_searches_23 hl (k := 2) rfl rfl (by decide) rfl (fun ls hl => ?_)
        refine lv_goto (tgt := 2) hx hb dX7_searches_26 (by decide) ?_
        exact ih _ _  H locs ls h hw (lv_sub hl [1, 2, 0] rfl)
  exact hL4 600 _ _  H locs ls h9 hw (lv_sub hl [1, 2, 0] rfl)
set_option maxHeartbeats 4000000 in
set_option maxRecDepth 100000 in
theorem c_X7_solutions (l : Launch) (K : vK) (ad : Nat → Nat) (hI : adInj 12 ad) (l1 : Int32) (σ : vSt) {r : Int32} {σ' : vSt} (h : f_X7_solutions l1 σ = some (r, σ')) : MCi l yX7_solutions (wsY yX7_solutions cX7_solutions 2 (some .int)) (rmF 10 205) K 12 ad (cM K ad) [.ref (ad 0), .int l1] σ r σ' := by
  refine MCi_of (own := RX7) (plainFor_of_name (by decide)) hI rfl (Nat.le_of_ble_eq_true rfl) ?_
  intro p e s m args below meth c A Q hx_E hE H locs ls hw hl
  have hx := hx_E.1; have hb := hx_E.2.1; have hown := hx_E.2.2.2.1; have hts := hx_E.2.2.2.2.1
  replace hl : lv_has ls 2 [(0, .ref (ad 0)), (1, .int l1)] := hl
  unfold f_X7_solutions at h
  refine lv_iload_n hx hb dX7_solutions_0 rfl (lv_at hl 1 rfl) ?_
  refine lv_iconst (v := 1) hx hb dX7_solutions_1 (by decide) ?_
  refine lv_bipush (v := 20) hx hb dX7_solutions_2 (by decide) ?_
  obtain ⟨v1, k2, h⟩ := it_b h
  refine kS_z (As := [.int l1, .int (1 : Int32), .int (20 : Int32)]) (rest := []) hx_E hw (c_X7_in l K l1 (1 : Int32) (20 : Int32) k2) mi_X7_in sm_X7_in ml_X7_162 rfl ⟨⟨Nat.le_of_ble_eq_true rfl, Nat.le_of_ble_eq_true rfl⟩, rfl, rfl⟩ ⟨Nat.zero_le _, Nat.zero_le _⟩ hl.1 rfl (Nat.le_of_ble_eq_true rfl) dX7_solutions_4 (fun z3 H locs hw => ?_)
  refine lv_if_ne (tgt := 13) hx hb dX7_solutions_7 (by decide) (fun c4 => ?_) (fun c4 => ?_)
  · replace h := it_f c4 h
    refine lv_aload_n hx hb dX7_solutions_13 rfl (lv_at hl 0 rfl) ?_
    refine lv_iload_n hx hb dX7_solutions_14 rfl (lv_at hl 1 rfl) ?_
    obtain ⟨σ5, k6, h⟩ := it_b h
    refine kV_v (As := [.int l1]) (rest := []) (q := 0) hx_E hw (c_X7_searches l K ad hI  l1 σ k6) mi_X7_searches mv_X7_searches ml_X7_218 (by decide) rfl rfl rfl ⟨⟨Nat.le_of_ble_eq_true rfl, Nat.le_of_ble_eq_true rfl⟩, rfl, rfl⟩ ⟨Nat.zero_le _, Nat.zero_le _⟩ hl.1 rfl (Nat.le_of_ble_eq_true rfl) dX7_solutions_15 (fun H locs hw => ?_)
    refine lv_aload_n hx hb dX7_solutions_18 rfl (lv_at hl 0 rfl) ?_
    refine gM_0_27 hx_E hw fl_X7_199 dX7_solutions_19 ?_
    exact hE hw (congrArg Prod.fst (Option.some.inj h)) (congrArg Prod.snd (Option.some.inj h)) dX7_solutions_22
  · replace h := it_t c4 h
    refine lv_bipush (v := -2) hx hb dX7_solutions_10 (by decide) ?_
    exact hE hw (congrArg Prod.fst (Option.some.inj h)) (congrArg Prod.snd (Option.some.inj h)) dX7_solutions_12
set_option maxHeartbeats 4000000 in
set_option maxRecDepth 100000 in
theorem c_X7_nodes (l : Launch) (K : vK) (ad : Nat → Nat) (hI : adInj 12 ad) (l1 : Int32) (σ : vSt) {r : Int32} {σ' : vSt} (h : f_X7_nodes l1 σ = some (r, σ')) : MCi l yX7_nodes (wsY yX7_nodes cX7_nodes 2 (some .int)) (rmF 10 205) K 12 ad (cM K ad) [.ref (ad 0), .int l1] σ r σ' := by
  refine MCi_of (own := RX7) (plainFor_of_name (by decide)) hI rfl (Nat.le_of_ble_eq_true rfl) ?_
  intro p e s m args below meth c A Q hx_E hE H locs ls hw hl
  have hx := hx_E.1; have hb := hx_E.2.1; have hown := hx_E.2.2.2.1; have hts := hx_E.2.2.2.2.1
  replace hl : lv_has ls 2 [(0, .ref (ad 0)), (1, .int l1)] := hl
  unfold f_X7_nodes at h
  refine lv_iload_n hx hb dX7_nodes_0 rfl (lv_at hl 1 rfl) ?_
  refine lv_iconst (v := 1) hx hb dX7_nodes_1 (by decide) ?_
  refine lv_bipush (v := 20) hx hb dX7_nodes_2 (by decide) ?_
  obtain ⟨v1, k2, h⟩ := it_b h
  refine kS_z (As := [.int l1, .int (1 : Int32), .int (20 : Int32)]) (rest := []) hx_E hw (c_X7_in l K l1 (1 : Int32) (20 : Int32) k2) mi_X7_in sm_X7_in ml_X7_162 rfl ⟨⟨Nat.le_of_ble_eq_true rfl, Nat.le_of_ble_eq_true rfl⟩, rfl, rfl⟩ ⟨Nat.zero_le _, Nat.zero_le _⟩ hl.1 rfl (Nat.le_of_ble_eq_true rfl) dX7_nodes_4 (fun z3 H locs hw => ?_)
  refine lv_if_ne (tgt := 13) hx hb dX7_nodes_7 (by decide) (fun c4 => ?_) (fun c4 => ?_)
  · replace h := it_f c4 h
    refine lv_aload_n hx hb dX7_nodes_13 rfl (lv_at hl 0 rfl) ?_
    refine lv_iload_n hx hb dX7_nodes_14 rfl (lv_at hl 1 rfl) ?_
    obtain ⟨σ5, k6, h⟩ := it_b h
    refine kV_v (As := [.int l1]) (rest := []) (q := 0) hx_E hw (c_X7_searches l K ad hI  l1 σ k6) mi_X7_searches mv_X7_searches ml_X7_218 (by decide) rfl rfl rfl ⟨⟨Nat.le_of_ble_eq_true rfl, Nat.le_of_ble_eq_true rfl⟩, rfl, rfl⟩ ⟨Nat.zero_le _, Nat.zero_le _⟩ hl.1 rfl (Nat.le_of_ble_eq_true rfl) dX7_nodes_15 (fun H locs hw => ?_)
    refine lv_aload_n hx hb dX7_nodes_18 rfl (lv_at hl 0 rfl) ?_
    refine gM_0_28 hx_E hw fl_X7_205 dX7_nodes_19 ?_
    refine lv_if_eq (tgt := 31) hx hb dX7_nodes_22 (by decide) (fun c7 => ?_) (fun c7 => ?_)
    · replace h := it_t c7 h
      refine lv_aload_n hx hb dX7_nodes_31 rfl (lv_at hl 0 rfl) ?_
      refine gM_0_26 hx_E hw fl_X7_202 dX7_nodes_32 ?_
      exact hE hw (congrArg Prod.fst (Option.some.inj h)) (congrArg Prod.snd (Option.some.inj h)) dX7_nodes_35
    · replace h := it_f c7 h
      refine lv_sipush (v := -200) hx hb dX7_nodes_25 (by decide) ?_
      refine lv_goto (tgt := 35) hx hb dX7_nodes_28 (by decide) ?_
      exact hE hw (congrArg Prod.fst (Option.some.inj h)) (congrArg Prod.snd (Option.some.inj h)) dX7_nodes_35
  · replace h := it_t c4 h
    refine lv_bipush (v := -2) hx hb dX7_nodes_10 (by decide) ?_
    exact hE hw (congrArg Prod.fst (Option.some.inj h)) (congrArg Prod.snd (Option.some.inj h)) dX7_nodes_12
set_option maxHeartbeats 4000000 in
set_option maxRecDepth 100000 in
theorem c_X7_solved (l : Launch) (K : vK) (ad : Nat → Nat) (hI : adInj 12 ad) (l1 : Int32) (σ : vSt) {r : Int32} {σ' : vSt} (h : f_X7_solved l1 σ = some (r, σ')) : MCi l yX7_solved (wsY yX7_solved cX7_solved 2 (some .int)) (rmF 10 205) K 12 ad (cM K ad) [.ref (ad 0), .int l1] σ r σ' := by
  refine MCi_of (own := RX7) (plainFor_of_name (by decide)) hI rfl (Nat.le_of_ble_eq_true rfl) ?_
  intro p e s m args below meth c A Q hx_E hE H locs ls hw hl
  have hx := hx_E.1; have hb := hx_E.2.1; have hown := hx_E.2.2.2.1; have hts := hx_E.2.2.2.2.1
  replace hl : lv_has ls 2 [(0, .ref (ad 0)), (1, .int l1)] := hl
  unfold f_X7_solved at h
  refine lv_iload_n hx hb dX7_solved_0 rfl (lv_at hl 1 rfl) ?_
  refine lv_iconst (v := 0) hx hb dX7_solved_1 (by decide) ?_
  refine lv_aload_n hx hb dX7_solved_2 rfl (lv_at hl 0 rfl) ?_
  obtain ⟨v1, k2, h⟩ := it_b h
  refine kV_i (As := []) (rest := [.int (0 : Int32), .int l1]) (q := 0) hx_E hw (c_X7_edges l K ad hI   σ k2) mi_X7_edges mv_X7_edges ml_X7_69 (by decide) rfl rfl rfl ⟨⟨Nat.le_of_ble_eq_true rfl, Nat.le_of_ble_eq_true rfl⟩, rfl, rfl⟩ ⟨Nat.zero_le _, Nat.zero_le _⟩ hl.1 rfl (Nat.le_of_ble_eq_true rfl) dX7_solved_3 (fun H locs hw => ?_)
  refine lv_iconst (v := 1) hx hb dX7_solved_6 (by decide) ?_
  refine lv_isub hx hb dX7_solved_7 ?_
  obtain ⟨v3, k4, h⟩ := it_b h
  refine kS_z (As := [.int l1, .int (0 : Int32), .int (v1 - (1 : Int32))]) (rest := []) hx_E hw (c_X7_in l K l1 (0 : Int32) (v1 - (1 : Int32)) k4) mi_X7_in sm_X7_in ml_X7_162 rfl ⟨⟨Nat.le_of_ble_eq_true rfl, Nat.le_of_ble_eq_true rfl⟩, rfl, rfl⟩ ⟨Nat.zero_le _, Nat.zero_le _⟩ hl.1 rfl (Nat.le_of_ble_eq_true rfl) dX7_solved_8 (fun z5 H locs hw => ?_)
  refine lv_if_ne (tgt := 17) hx hb dX7_solved_11 (by decide) (fun c6 => ?_) (fun c6 => ?_)
  · replace h := it_f c6 h
    refine lv_aload_n hx hb dX7_solved_17 rfl (lv_at hl 0 rfl) ?_
    refine lv_iconst (v := 1) hx hb dX7_solved_18 (by decide) ?_
    obtain ⟨σ7, k8, h⟩ := it_b h
    refine kV_v (As := [.int (1 : Int32)]) (rest := []) (q := 0) hx_E hw (c_X7_searches l K ad hI  (1 : Int32) σ k8) mi_X7_searches mv_X7_searches ml_X7_218 (by decide) rfl rfl rfl ⟨⟨Nat.le_of_ble_eq_true rfl, Nat.le_of_ble_eq_true rfl⟩, rfl, rfl⟩ ⟨Nat.zero_le _, Nat.zero_le _⟩ hl.1 rfl (Nat.le_of_ble_eq_true rfl) dX7_solved_19 (fun H locs hw => ?_)
    refine lv_aload_n hx hb dX7_solved_22 rfl (lv_at hl 0 rfl) ?_
    refine gM_0_27 hx_E hw fl_X7_199 dX7_solved_23 ?_
    refine lv_if_ne (tgt := 33) hx hb dX7_solved_26 (by decide) (fun c9 => ?_) (fun c9 => ?_)
    · replace h := it_f c9 h
      refine lv_aload_n hx hb dX7_solved_33 rfl (lv_at hl 0 rfl) ?_
      refine gM_0_25 hx_E hw fl_X7_41 dX7_solved_34 ?_
      refine lv_iload_n hx hb dX7_solved_37 rfl (lv_at hl 1 rfl) ?_
      obtain ⟨g10, h⟩ := it_g h
      refine aM_11 hx_E hw g10 dX7_solved_38 ?_
      exact hE hw (congrArg Prod.fst (Option.some.inj h)) (congrArg Prod.snd (Option.some.inj h)) dX7_solved_39
    · replace h := it_t c9 h
      refine lv_iconst (v := -1) hx hb dX7_solved_29 (by decide) ?_
      refine lv_goto (tgt := 39) hx hb dX7_solved_30 (by decide) ?_
      exact hE hw (congrArg Prod.fst (Option.some.inj h)) (congrArg Prod.snd (Option.some.inj h)) dX7_solved_39
  · replace h := it_t c6 h
    refine lv_bipush (v := -2) hx hb dX7_solved_14 (by decide) ?_
    exact hE hw (congrArg Prod.fst (Option.some.inj h)) (congrArg Prod.snd (Option.some.inj h)) dX7_solved_16
set_option maxHeartbeats 4000000 in
set_option maxRecDepth 100000 in
theorem c_X7_gradeOf (l : Launch) (K : vK) (l0 : Int32) {r : Int32} (h : f_X7_gradeOf l0 = some r) : MCi l yX7_gradeOf (wsY yX7_gradeOf cX7_gradeOf 1 (some .int)) (rmF 1 0) K 0 ad_0 (cf_0) [.int l0] st_0 r st_0 := by
  refine MCi_of (own := RX7) (plainFor_of_name (by decide)) adInj_0 rfl (Nat.le_of_ble_eq_true rfl) ?_
  intro p e s m args below meth c A Q hx_E hE H locs ls hw hl
  have hx := hx_E.1; have hb := hx_E.2.1; have hown := hx_E.2.2.2.1; have hts := hx_E.2.2.2.2.1
  replace hl : lv_has ls 1 [(0, .int l0)] := hl
  unfold f_X7_gradeOf at h
  refine lv_iload_n hx hb dX7_gradeOf_0 rfl (lv_at hl 0 rfl) ?_
  refine lv_iconst (v := 3) hx hb dX7_gradeOf_1 (by decide) ?_
  refine lv_icmp_ge (tgt := 9) hx hb dX7_gradeOf_2 (by decide) (fun c1 => ?_) (fun c1 => ?_)
  · replace h := it_t c1 h
    refine lv_iload_n hx hb dX7_gradeOf_9 rfl (lv_at hl 0 rfl) ?_
    refine lv_iconst (v := 5) hx hb dX7_gradeOf_10 (by decide) ?_
    refine lv_icmp_ge (tgt := 18) hx hb dX7_gradeOf_11 (by decide) (fun c2 => ?_) (fun c2 => ?_)
    · replace h := it_t c2 h
      refine lv_iload_n hx hb dX7_gradeOf_18 rfl (lv_at hl 0 rfl) ?_
      refine lv_iconst (v := 5) hx hb dX7_gradeOf_19 (by decide) ?_
      refine lv_icmp_ne (tgt := 27) hx hb dX7_gradeOf_20 (by decide) (fun c3 => ?_) (fun c3 => ?_)
      · replace h := it_f c3 h
        refine lv_iconst (v := 4) hx hb dX7_gradeOf_27 (by decide) ?_
        exact hE hw (Option.some.inj h) rfl dX7_gradeOf_28
      · replace h := it_t c3 h
        refine lv_iconst (v := 3) hx hb dX7_gradeOf_23 (by decide) ?_
        refine lv_goto (tgt := 28) hx hb dX7_gradeOf_24 (by decide) ?_
        exact hE hw (Option.some.inj h) rfl dX7_gradeOf_28
    · replace h := it_f c2 h
      refine lv_iconst (v := 2) hx hb dX7_gradeOf_14 (by decide) ?_
      refine lv_goto (tgt := 28) hx hb dX7_gradeOf_15 (by decide) ?_
      exact hE hw (Option.some.inj h) rfl dX7_gradeOf_28
  · replace h := it_f c1 h
    refine lv_iconst (v := 1) hx hb dX7_gradeOf_5 (by decide) ?_
    refine lv_goto (tgt := 28) hx hb dX7_gradeOf_6 (by decide) ?_
    exact hE hw (Option.some.inj h) rfl dX7_gradeOf_28
set_option maxHeartbeats 4000000 in
set_option maxRecDepth 100000 in
theorem c_X7_grade (l : Launch) (K : vK) (ad : Nat → Nat) (hI : adInj 12 ad) (σ : vSt) {r : Int32} {σ' : vSt} (h : f_X7_grade σ = some (r, σ')) : MCi l yX7_grade (wsY yX7_grade cX7_grade 4 (some .int)) (rmF 11 228) K 12 ad (cM K ad) [.ref (ad 0)] σ r σ' := by
  refine MCi_of (own := RX7) (plainFor_of_name (by decide)) hI rfl (Nat.le_of_ble_eq_true rfl) ?_
  intro p e s m args below meth c A Q hx_E hE H locs ls hw hl
  have hx := hx_E.1; have hb := hx_E.2.1; have hown := hx_E.2.2.2.1; have hts := hx_E.2.2.2.2.1
  replace hl : lv_has ls 4 [(0, .ref (ad 0))] := hl
  unfold f_X7_grade at h
  refine lv_iconst (v := 0) hx hb dX7_grade_0 (by decide) ?_
  refine lv_istore_n (lv' := [(1, .int (0 : Int32)), (0, .ref (ad 0))]) hx hb dX7_grade_1 rfl hl (by decide) rfl (fun ls hl => ?_)
  obtain ⟨φ6, h9, h_φ6⟩ := it_b h
  have hJ5 : ∀ (σ3 : vSt), σ3 = φ6 → ∀ (H : Heap) (locs : List Loc) (ls : Array Slot), PW K 12 ad (cM K ad) A s.heap σ3 H locs → lv_has ls 4 [(0, .ref (ad 0))] → W p l e (rmF 11 228) s m args below meth c H locs 0 0 Q (F0 m 39 ls []) := by
    intro σ3 e9 H locs ls hw hl
    subst e9
    replace h := h_φ6
    refine lv_iconst (v := 0) hx hb dX7_grade_39 (by decide) ?_
    refine lv_istore_n (lv' := [(1, .int (0 : Int32)), (0, .ref (ad 0))]) hx hb dX7_grade_40 rfl hl (by decide) rfl (fun ls hl => ?_)
    obtain ⟨φ17, h9, h_φ17⟩ := it_b h
    have hJ16 : ∀ (v13 : Int32) (σ14 : vSt), (v13, σ14) = φ17 → ∀ (H : Heap) (locs : List Loc) (ls : Array Slot), PW K 12 ad (cM K ad) A s.heap σ14 H locs → lv_has ls 4 [(0, .ref (ad 0)), (1, .int v13)] → W p l e (rmF 11 228) s m args below meth c H locs 0 0 Q (F0 m 80 ls []) := by
      intro v13 σ14 e9 H locs ls hw hl
      subst e9
      replace h := h_φ17
      refine lv_aload_n hx hb dX7_grade_80 rfl (lv_at hl 0 rfl) ?_
      obtain ⟨⟨v30, σ31⟩, k32, h⟩ := it_b h
      refine kV_z (As := []) (rest := []) (q := 0) hx_E hw (c_X7_fits l K ad hI   σ14 k32) mi_X7_fits mv_X7_fits ml_X7_137 (by decide) rfl rfl rfl ⟨⟨Nat.le_of_ble_eq_true rfl, Nat.le_of_ble_eq_true rfl⟩, rfl, rfl⟩ ⟨Nat.zero_le _, Nat.zero_le _⟩ hl.1 rfl (Nat.le_of_ble_eq_true rfl) dX7_grade_81 (fun z33 H locs hw => ?_)
      obtain ⟨φ37, h9, h_φ37⟩ := it_b h
      have hJ36 : ∀ (v35 : Int32), v35 = φ37 → (v35 = 0 ∨ v35 = 1) → ∀ (H : Heap) (locs : List Loc) (ls : Array Slot), PW K 12 ad (cM K ad) A s.heap σ31 H locs → lv_has ls 4 [(0, .ref (ad 0)), (1, .int v13)] → W p l e (rmF 11 228) s m args below meth c H locs 0 0 Q (F0 m 99 ls [.int v35]) := by
        intro v35 e9 z_v35 H locs ls hw hl
        subst e9
        replace h := h_φ37
        refine lv_istore_n (lv' := [(2, .int v35), (0, .ref (ad 0)), (1, .int v13)]) hx hb dX7_grade_99 rfl hl (by decide) rfl (fun ls hl => ?_)
        refine lv_iconst (v := 0) hx hb dX7_grade_100 (by decide) ?_
        refine lv_istore_n (lv' := [(3, .int (0 : Int32)), (2, .int v35), (0, .ref (ad 0)), (1, .int v13)]) hx hb dX7_grade_101 rfl hl (by decide) rfl (fun ls hl => ?_)
        obtain ⟨φ44, h9, h_φ44⟩ := it_b h
        have hJ43 : ∀ (σ41 : vSt), σ41 = φ44 → ∀ (H : Heap) (locs : List Loc) (ls : Array Slot), PW K 12 ad (cM K ad) A s.heap σ41 H locs → lv_has ls 4 [(1, .int v13), (2, .int v35)] → W p l e (rmF 11 228) s m args below meth c H locs 0 0 Q (F0 m 129 ls []) := by
          intro σ41 e9 H locs ls hw hl
          subst e9
          replace h := h_φ44
          refine lv_iload_n hx hb dX7_grade_129 rfl (lv_at hl 1 rfl) ?_
          refine lv_if_eq (tgt := 137) hx hb dX7_grade_130 (by decide) (fun c48 => ?_) (fun c48 => ?_)
          · replace h := it_t c48 h
            refine lv_iconst (v := -1) hx hb dX7_grade_137 (by decide) ?_
            exact hE hw (congrArg Prod.fst (Option.some.inj h)) (congrArg Prod.snd (Option.some.inj h)) dX7_grade_138
          · replace h := it_f c48 h
            refine lv_iload_n hx hb dX7_grade_133 rfl (lv_at hl 0 rfl) ?_
            refine lv_goto (tgt := 138) hx hb dX7_grade_134 (by decide) ?_
            exact hE hw (congrArg Prod.fst (Option.some.inj h)) (congrArg Prod.snd (Option.some.inj h)) dX7_grade_138
        have hL42 : ∀ (n9 : Nat) (v39 : Int32) (σ40 : vSt), ∀ (H : Heap) (locs : List Loc) (ls : Array Slot), f_X7_grade_102  n9 v39 σ40 = some φ44 → PW K 12 ad (cM K ad) A s.heap σ40 H locs → lv_has ls 4 [(0, .ref (ad 0)), (1, .int v13), (2, .int v35), (3, .int v39)] → W p l e (rmF 11 228) s m args below meth c H locs 0 0 Q (F0 m 102 ls []) := by
          intro n9
          induction n9 with
          | zero => intro v39 σ40 H locs ls h hw hl; rw [f_X7_grade_102.eq_1] at h; exact it_n h
          | succ n9 ih =>
            intro v39 σ40 H locs ls h hw hl
            rw [f_X7_grade_102.eq_2] at h
            refine lv_iload_n hx hb dX7_grade_102 rfl (lv_at hl 3 rfl) ?_
            refine lv_bipush (v := 40) hx hb dX7_grade_103 (by decide) ?_
            refine lv_icmp_ge (tgt := 129) hx hb dX7_grade_105 (by decide) (fun c45 => ?_) (fun c45 => ?_)
            · replace h := it_t c45 h
              have e9 := Option.some.inj h
              subst e9
              exact hJ43 _ rfl  H locs ls hw (lv_sub hl [1, 2] rfl)
            · replace h := it_f c45 h
              refine lv_aload_n hx hb dX7_grade_108 rfl (lv_at hl 0 rfl) ?_
              refine gM_0_0 hx_E hw fl_X7_7 dX7_grade_109 ?_
              refine lv_bipush (v := 18) hx hb dX7_grade_112 (by decide) ?_
              refine lv_iload_n hx hb dX7_grade_114 rfl (lv_at hl 3 rfl) ?_
              refine lv_iadd hx hb dX7_grade_115 ?_
              refine lv_aload_n hx hb dX7_grade_116 rfl (lv_at hl 0 rfl) ?_
              refine gM_0_24 hx_E hw fl_X7_38 dX7_grade_117 ?_
              refine lv_iload_n hx hb dX7_grade_120 rfl (lv_at hl 3 rfl) ?_
              obtain ⟨g46, h⟩ := it_g h
              refine aM_10 hx_E hw g46 dX7_grade_121 ?_
              obtain ⟨g47, h⟩ := it_g h
              refine sM_1 hx_E hw g47 dX7_grade_122 (fun H locs hw => ?_)
              refine lv_iinc (v := (v39 + 1)) (lv' := [(3, .int (v39 + 1)), (0, .ref (ad 0)), (1, .int v13), (2, .int v35)]) hx hb dX7_grade_123 hl (k := 3) rfl rfl (by decide) rfl (fun ls hl => ?_)
              refine lv_goto (tgt := 102) hx hb dX7_grade_126 (by decide) ?_
              exact ih _ _  H locs ls h hw (lv_sub hl [1, 2, 3, 0] rfl)
        exact hL42 600 _ _  H locs ls h9 hw (lv_sub hl [2, 3, 1, 0] rfl)
      replace h := h9
      refine lv_if_eq (tgt := 98) hx hb dX7_grade_84 (by decide) (fun c34 => ?_) (fun c34 => ?_)
      · replace h := it_t c34 h
        refine lv_iconst (v := 0) hx hb dX7_grade_98 (by decide) ?_
        have e9 := Option.some.inj h
        subst e9
        exact hJ36 _ rfl (Or.inl rfl) H locs ls hw (lv_sub hl [0, 1] rfl)
      · replace h := it_f c34 h
        refine lv_aload_n hx hb dX7_grade_87 rfl (lv_at hl 0 rfl) ?_
        refine gM_0_12 hx_E hw fl_X7_97 dX7_grade_88 ?_
        refine lv_if_eq (tgt := 98) hx hb dX7_grade_91 (by decide) (fun c38 => ?_) (fun c38 => ?_)
        · replace h := it_t c38 h
          refine lv_iconst (v := 0) hx hb dX7_grade_98 (by decide) ?_
          have e9 := Option.some.inj h
          subst e9
          exact hJ36 _ rfl (Or.inl rfl) H locs ls hw (lv_sub hl [0, 1] rfl)
        · replace h := it_f c38 h
          refine lv_iconst (v := 1) hx hb dX7_grade_94 (by decide) ?_
          refine lv_goto (tgt := 99) hx hb dX7_grade_95 (by decide) ?_
          have e9 := Option.some.inj h
          subst e9
          exact hJ36 _ rfl (Or.inr rfl) H locs ls hw (lv_sub hl [0, 1] rfl)
    have hL15 : ∀ (n9 : Nat) (v11 : Int32) (σ12 : vSt), ∀ (H : Heap) (locs : List Loc) (ls : Array Slot), f_X7_grade_41  n9 v11 σ12 = some φ17 → PW K 12 ad (cM K ad) A s.heap σ12 H locs → lv_has ls 4 [(0, .ref (ad 0)), (1, .int v11)] → W p l e (rmF 11 228) s m args below meth c H locs 0 0 Q (F0 m 41 ls []) := by
      intro n9
      induction n9 with
      | zero => intro v11 σ12 H locs ls h hw hl; rw [f_X7_grade_41.eq_1] at h; exact it_n h
      | succ n9 ih =>
        intro v11 σ12 H locs ls h hw hl
        rw [f_X7_grade_41.eq_2] at h
        refine lv_aload_n hx hb dX7_grade_41 rfl (lv_at hl 0 rfl) ?_
        refine lv_bipush (v := 7) hx hb dX7_grade_42 (by decide) ?_
        obtain ⟨⟨v18, σ19⟩, k20, h⟩ := it_b h
        refine kV_z (As := [.int (7 : Int32)]) (rest := []) (q := 0) hx_E hw (c_X7_findsNext l K ad hI  (7 : Int32) σ12 k20) mi_X7_findsNext mv_X7_findsNext ml_X7_196 (by decide) rfl rfl rfl ⟨⟨Nat.le_of_ble_eq_true rfl, Nat.le_of_ble_eq_true rfl⟩, rfl, rfl⟩ ⟨Nat.zero_le _, Nat.zero_le _⟩ hl.1 rfl (Nat.le_of_ble_eq_true rfl) dX7_grade_44 (fun z21 H locs hw => ?_)
        refine lv_if_eq (tgt := 80) hx hb dX7_grade_47 (by decide) (fun c22 => ?_) (fun c22 => ?_)
        · replace h := it_t c22 h
          have e9 := Option.some.inj h
          subst e9
          exact hJ16 _ _ rfl  H locs ls hw (lv_sub hl [0, 1] rfl)
        · replace h := it_f c22 h
          refine lv_aload_n hx hb dX7_grade_50 rfl (lv_at hl 0 rfl) ?_
          obtain ⟨σ23, k24, h⟩ := it_b h
          refine kV_v (As := []) (rest := []) (q := 0) hx_E hw (c_X7_makes l K ad hI   σ19 k24) mi_X7_makes mv_X7_makes ml_X7_152 (by decide) rfl rfl rfl ⟨⟨Nat.le_of_ble_eq_true rfl, Nat.le_of_ble_eq_true rfl⟩, rfl, rfl⟩ ⟨Nat.zero_le _, Nat.zero_le _⟩ hl.1 rfl (Nat.le_of_ble_eq_true rfl) dX7_grade_51 (fun H locs hw => ?_)
          refine lv_aload_n hx hb dX7_grade_54 rfl (lv_at hl 0 rfl) ?_
          refine gM_0_13 hx_E hw fl_X7_115 dX7_grade_55 ?_
          obtain ⟨v25, k26, h⟩ := it_b h
          refine kS_i (As := [.int (gI σ23 0 13)]) (rest := []) hx_E hw (c_X7_gradeOf l K (gI σ23 0 13) k26) mi_X7_gradeOf sm_X7_gradeOf ml_X7_221 rfl ⟨⟨Nat.le_of_ble_eq_true rfl, Nat.le_of_ble_eq_true rfl⟩, rfl, rfl⟩ ⟨Nat.zero_le _, Nat.zero_le _⟩ hl.1 rfl (Nat.le_of_ble_eq_true rfl) dX7_grade_58 (fun H locs hw => ?_)
          refine lv_iload_n hx hb dX7_grade_61 rfl (lv_at hl 1 rfl) ?_
          refine lv_icmp_le (tgt := 75) hx hb dX7_grade_62 (by decide) (fun c27 => ?_) (fun c27 => ?_)
          · replace h := it_t c27 h
            refine lv_iload_n hx hb dX7_grade_75 rfl (lv_at hl 1 rfl) ?_
            refine lv_istore_n (lv' := [(1, .int v11), (0, .ref (ad 0))]) hx hb dX7_grade_76 rfl hl (by decide) rfl (fun ls hl => ?_)
            refine lv_goto (tgt := 41) hx hb dX7_grade_77 (by decide) ?_
            exact ih _ _  H locs ls h hw (lv_sub hl [1, 0] rfl)
          · replace h := it_f c27 h
            refine lv_aload_n hx hb dX7_grade_65 rfl (lv_at hl 0 rfl) ?_
            refine gM_0_13 hx_E hw fl_X7_115 dX7_grade_66 ?_
            obtain ⟨v28, k29, h⟩ := it_b h
            refine kS_i (As := [.int (gI σ23 0 13)]) (rest := []) hx_E hw (c_X7_gradeOf l K (gI σ23 0 13) k29) mi_X7_gradeOf sm_X7_gradeOf ml_X7_221 rfl ⟨⟨Nat.le_of_ble_eq_true rfl, Nat.le_of_ble_eq_true rfl⟩, rfl, rfl⟩ ⟨Nat.zero_le _, Nat.zero_le _⟩ hl.1 rfl (Nat.le_of_ble_eq_true rfl) dX7_grade_69 (fun H locs hw => ?_)
            refine lv_goto (tgt := 76) hx hb dX7_grade_72 (by decide) ?_
            refine lv_istore_n (lv' := [(1, .int v28), (0, .ref (ad 0))]) hx hb dX7_grade_76 rfl hl (by decide) rfl (fun ls hl => ?_)
            refine lv_goto (tgt := 41) hx hb dX7_grade_77 (by decide) ?_
            exact ih _ _  H locs ls h hw (lv_sub hl [1, 0] rfl)
    exact hL15 600 _ _  H locs ls h9 hw (lv_sub hl [1, 0] rfl)
  have hL4 : ∀ (n9 : Nat) (v1 : Int32) (σ2 : vSt), ∀ (H : Heap) (locs : List Loc) (ls : Array Slot), f_X7_grade_2  n9 v1 σ2 = some φ6 → PW K 12 ad (cM K ad) A s.heap σ2 H locs → lv_has ls 4 [(0, .ref (ad 0)), (1, .int v1)] → W p l e (rmF 11 228) s m args below meth c H locs 0 0 Q (F0 m 2 ls []) := by
    intro n9
    induction n9 with
    | zero => intro v1 σ2 H locs ls h hw hl; rw [f_X7_grade_2.eq_1] at h; exact it_n h
    | succ n9 ih =>
      intro v1 σ2 H locs ls h hw hl
      rw [f_X7_grade_2.eq_2] at h
      refine lv_iload_n hx hb dX7_grade_2 rfl (lv_at hl 1 rfl) ?_
      refine lv_bipush (v := 40) hx hb dX7_grade_3 (by decide) ?_
      refine lv_icmp_ge (tgt := 39) hx hb dX7_grade_5 (by decide) (fun c7 => ?_) (fun c7 => ?_)
      · replace h := it_t c7 h
        have e9 := Option.some.inj h
        subst e9
        exact hJ5 _ rfl  H locs ls hw (lv_sub hl [0] rfl)
      · replace h := it_f c7 h
        refine lv_aload_n hx hb dX7_grade_8 rfl (lv_at hl 0 rfl) ?_
        refine gM_0_24 hx_E hw fl_X7_38 dX7_grade_9 ?_
        refine lv_iload_n hx hb dX7_grade_12 rfl (lv_at hl 1 rfl) ?_
        refine lv_aload_n hx hb dX7_grade_13 rfl (lv_at hl 0 rfl) ?_
        refine gM_0_0 hx_E hw fl_X7_7 dX7_grade_14 ?_
        refine lv_bipush (v := 18) hx hb dX7_grade_17 (by decide) ?_
        refine lv_iload_n hx hb dX7_grade_19 rfl (lv_at hl 1 rfl) ?_
        refine lv_iadd hx hb dX7_grade_20 ?_
        obtain ⟨g8, h⟩ := it_g h
        refine aM_1 hx_E hw g8 dX7_grade_21 ?_
        obtain ⟨g9, h⟩ := it_g h
        refine sM_10 hx_E hw g9 dX7_grade_22 (fun H locs hw => ?_)
        refine lv_aload_n hx hb dX7_grade_23 rfl (lv_at hl 0 rfl) ?_
        refine gM_0_0 hx_E hw fl_X7_7 dX7_grade_24 ?_
        refine lv_bipush (v := 18) hx hb dX7_grade_27 (by decide) ?_
        refine lv_iload_n hx hb dX7_grade_29 rfl (lv_at hl 1 rfl) ?_
        refine lv_iadd hx hb dX7_grade_30 ?_
        refine lv_iconst (v := 0) hx hb dX7_grade_31 (by decide) ?_
        obtain ⟨g10, h⟩ := it_g h
        refine sM_1 hx_E hw g10 dX7_grade_32 (fun H locs hw => ?_)
        refine lv_iinc (v := (v1 + 1)) (lv' := [(1, .int (v1 + 1)), (0, .ref (ad 0))]) hx hb dX7_grade_33 hl (k := 1) rfl rfl (by decide) rfl (fun ls hl => ?_)
        refine lv_goto (tgt := 2) hx hb dX7_grade_36 (by decide) ?_
        exact ih _ _  H locs ls h hw (lv_sub hl [1, 0] rfl)
  exact hL4 600 _ _  H locs ls h9 hw (lv_sub hl [1, 0] rfl)
set_option maxHeartbeats 4000000 in
set_option maxRecDepth 100000 in
theorem c_X7_counts (l : Launch) (K : vK) (ad : Nat → Nat) (hI : adInj 12 ad) (σ : vSt) {r : Int32} (h : f_X7_counts σ = some r) : MCi l yX7_counts (wsY yX7_counts cX7_counts 3 (some .int)) (rmF 2 20) K 12 ad (cM K ad) [.ref (ad 0)] σ r σ := by
  refine MCi_of (own := RX7) (plainFor_of_name (by decide)) hI rfl (Nat.le_of_ble_eq_true rfl) ?_
  intro p e s m args below meth c A Q hx_E hE H locs ls hw hl
  have hx := hx_E.1; have hb := hx_E.2.1; have hown := hx_E.2.2.2.1; have hts := hx_E.2.2.2.2.1
  replace hl : lv_has ls 3 [(0, .ref (ad 0))] := hl
  unfold f_X7_counts at h
  refine lv_iconst (v := 0) hx hb dX7_counts_0 (by decide) ?_
  refine lv_istore_n (lv' := [(1, .int (0 : Int32)), (0, .ref (ad 0))]) hx hb dX7_counts_1 rfl hl (by decide) rfl (fun ls hl => ?_)
  refine lv_iconst (v := 0) hx hb dX7_counts_2 (by decide) ?_
  refine lv_istore_n (lv' := [(2, .int (0 : Int32)), (1, .int (0 : Int32)), (0, .ref (ad 0))]) hx hb dX7_counts_3 rfl hl (by decide) rfl (fun ls hl => ?_)
  obtain ⟨φ6, h9, h_φ6⟩ := it_b h
  have hJ5 : ∀ (v3 : Int32), v3 = φ6 → ∀ (H : Heap) (locs : List Loc) (ls : Array Slot), PW K 12 ad (cM K ad) A s.heap σ H locs → lv_has ls 3 [(1, .int v3)] → W p l e (rmF 2 20) s m args below meth c H locs 0 0 Q (F0 m 38 ls []) := by
    intro v3 e9 H locs ls hw hl
    subst e9
    replace h := h_φ6
    refine lv_iload_n hx hb dX7_counts_38 rfl (lv_at hl 0 rfl) ?_
    exact hE hw (Option.some.inj h) rfl dX7_counts_39
  have hL4 : ∀ (n9 : Nat) (v1 : Int32) (v2 : Int32), ∀ (H : Heap) (locs : List Loc) (ls : Array Slot), f_X7_counts_4 σ n9 v1 v2 = some φ6 → PW K 12 ad (cM K ad) A s.heap σ H locs → lv_has ls 3 [(0, .ref (ad 0)), (1, .int v1), (2, .int v2)] → W p l e (rmF 2 20) s m args below meth c H locs 0 0 Q (F0 m 4 ls []) := by
    intro n9
    induction n9 with
    | zero => intro v1 v2 H locs ls h hw hl; rw [f_X7_counts_4.eq_1] at h; exact it_n h
    | succ n9 ih =>
      intro v1 v2 H locs ls h hw hl
      rw [f_X7_counts_4.eq_2] at h
      refine lv_iload_n hx hb dX7_counts_4 rfl (lv_at hl 2 rfl) ?_
      refine lv_aload_n hx hb dX7_counts_5 rfl (lv_at hl 0 rfl) ?_
      obtain ⟨v7, k8, h⟩ := it_b h
      refine kV_i (As := []) (rest := [.int v2]) (q := 0) hx_E hw (c_X7_cells l K ad hI   σ k8) mi_X7_cells mv_X7_cells ml_X7_82 (by decide) rfl rfl rfl ⟨⟨Nat.le_of_ble_eq_true rfl, Nat.le_of_ble_eq_true rfl⟩, rfl, rfl⟩ ⟨Nat.zero_le _, Nat.zero_le _⟩ hl.1 rfl (Nat.le_of_ble_eq_true rfl) dX7_counts_6 (fun H locs hw => ?_)
      refine lv_icmp_ge (tgt := 38) hx hb dX7_counts_9 (by decide) (fun c9 => ?_) (fun c9 => ?_)
      · replace h := it_t c9 h
        have e9 := Option.some.inj h
        subst e9
        exact hJ5 _ rfl  H locs ls hw (lv_sub hl [1] rfl)
      · replace h := it_f c9 h
        refine lv_iload_n hx hb dX7_counts_12 rfl (lv_at hl 1 rfl) ?_
        refine lv_aload_n hx hb dX7_counts_13 rfl (lv_at hl 0 rfl) ?_
        refine gM_0_0 hx_E hw fl_X7_7 dX7_counts_14 ?_
        refine lv_iconst (v := 2) hx hb dX7_counts_17 (by decide) ?_
        refine lv_iload_n hx hb dX7_counts_18 rfl (lv_at hl 2 rfl) ?_
        refine lv_iadd hx hb dX7_counts_19 ?_
        obtain ⟨g10, h⟩ := it_g h
        refine aM_1 hx_E hw g10 dX7_counts_20 ?_
        refine lv_iconst (v := -1) hx hb dX7_counts_21 (by decide) ?_
        obtain ⟨φ14, h9, h_φ14⟩ := it_b h
        have hJ13 : ∀ (v12 : Int32), v12 = φ14 → (v12 = 0 ∨ v12 = 1) → ∀ (H : Heap) (locs : List Loc) (ls : Array Slot), PW K 12 ad (cM K ad) A s.heap σ H locs → lv_has ls 3 [(0, .ref (ad 0)), (2, .int v2)] → W p l e (rmF 2 20) s m args below meth c H locs 0 0 Q (F0 m 30 ls [.int v12, .int v1]) := by
          intro v12 e9 z_v12 H locs ls hw hl
          subst e9
          replace h := h_φ14
          refine lv_iadd hx hb dX7_counts_30 ?_
          obtain ⟨v15, e_v15, h⟩ := it_b h
          refine lt_topi (Option.some.inj e_v15) ?_
          refine lv_istore_n (lv' := [(1, .int v15), (0, .ref (ad 0)), (2, .int v2)]) hx hb dX7_counts_31 rfl hl (by decide) rfl (fun ls hl => ?_)
          refine lv_iinc (v := (v2 + 1)) (lv' := [(2, .int (v2 + 1)), (1, .int v15), (0, .ref (ad 0))]) hx hb dX7_counts_32 hl (k := 2) rfl rfl (by decide) rfl (fun ls hl => ?_)
          refine lv_goto (tgt := 4) hx hb dX7_counts_35 (by decide) ?_
          exact ih _ _   H locs ls h hw (lv_sub hl [2, 1, 0] rfl)
        replace h := h9
        refine lv_icmp_ne (tgt := 29) hx hb dX7_counts_22 (by decide) (fun c11 => ?_) (fun c11 => ?_)
        · replace h := it_f c11 h
          refine lv_iconst (v := 1) hx hb dX7_counts_29 (by decide) ?_
          have e9 := Option.some.inj h
          subst e9
          exact hJ13 _ rfl (Or.inr rfl) H locs ls hw (lv_sub hl [0, 2] rfl)
        · replace h := it_t c11 h
          refine lv_iconst (v := 0) hx hb dX7_counts_25 (by decide) ?_
          refine lv_goto (tgt := 30) hx hb dX7_counts_26 (by decide) ?_
          have e9 := Option.some.inj h
          subst e9
          exact hJ13 _ rfl (Or.inl rfl) H locs ls hw (lv_sub hl [0, 2] rfl)
  exact hL4 600 _ _  H locs ls h9 hw (lv_sub hl [2, 1, 0] rfl)
set_option maxHeartbeats 4000000 in
set_option maxRecDepth 100000 in
theorem c_X7_count (l : Launch) (K : vK) (ad : Nat → Nat) (hI : adInj 12 ad) (l1 : Int32) (σ : vSt) {r : Int32} (h : f_X7_count l1 σ = some r) : MCi l yX7_count (wsY yX7_count cX7_count 2 (some .int)) (rmF 4 63) K 12 ad (cM K ad) [.ref (ad 0), .int l1] σ r σ := by
  refine MCi_of (own := RX7) (plainFor_of_name (by decide)) hI rfl (Nat.le_of_ble_eq_true rfl) ?_
  intro p e s m args below meth c A Q hx_E hE H locs ls hw hl
  have hx := hx_E.1; have hb := hx_E.2.1; have hown := hx_E.2.2.2.1; have hts := hx_E.2.2.2.2.1
  replace hl : lv_has ls 2 [(0, .ref (ad 0)), (1, .int l1)] := hl
  unfold f_X7_count at h
  refine lv_iload_n hx hb dX7_count_0 rfl (lv_at hl 1 rfl) ?_
  refine lv_bipush (v := 6) hx hb dX7_count_1 (by decide) ?_
  refine lv_bipush (v := 13) hx hb dX7_count_3 (by decide) ?_
  obtain ⟨v1, k2, h⟩ := it_b h
  refine kS_z (As := [.int l1, .int (6 : Int32), .int (13 : Int32)]) (rest := []) hx_E hw (c_X7_in l K l1 (6 : Int32) (13 : Int32) k2) mi_X7_in sm_X7_in ml_X7_162 rfl ⟨⟨Nat.le_of_ble_eq_true rfl, Nat.le_of_ble_eq_true rfl⟩, rfl, rfl⟩ ⟨Nat.zero_le _, Nat.zero_le _⟩ hl.1 rfl (Nat.le_of_ble_eq_true rfl) dX7_count_5 (fun z3 H locs hw => ?_)
  refine lv_if_eq (tgt := 24) hx hb dX7_count_8 (by decide) (fun c4 => ?_) (fun c4 => ?_)
  · replace h := it_t c4 h
    refine lv_iload_n hx hb dX7_count_24 rfl (lv_at hl 1 rfl) ?_
    by_cases c15 : l1 = 0
    · replace h := it_t c15 h
      refine lv_tableIn (off := 79) (tgt := 104) hx hb dX7_count_25 (by rw [c15]; decide) (by rw [c15]; decide) (by rw [c15]; rfl) (by decide) ?_
      refine lv_aload_n hx hb dX7_count_104 rfl (lv_at hl 0 rfl) ?_
      refine gM_0_0 hx_E hw fl_X7_7 dX7_count_105 ?_
      refine lv_iload_n hx hb dX7_count_108 rfl (lv_at hl 1 rfl) ?_
      obtain ⟨g5, h⟩ := it_g h
      refine aM_1 hx_E hw g5 dX7_count_109 ?_
      exact hE hw (Option.some.inj h) rfl dX7_count_110
    replace h := it_f c15 h
    by_cases c16 : l1 = 1
    · replace h := it_t c16 h
      refine lv_tableIn (off := 79) (tgt := 104) hx hb dX7_count_25 (by rw [c16]; decide) (by rw [c16]; decide) (by rw [c16]; rfl) (by decide) ?_
      refine lv_aload_n hx hb dX7_count_104 rfl (lv_at hl 0 rfl) ?_
      refine gM_0_0 hx_E hw fl_X7_7 dX7_count_105 ?_
      refine lv_iload_n hx hb dX7_count_108 rfl (lv_at hl 1 rfl) ?_
      obtain ⟨g6, h⟩ := it_g h
      refine aM_1 hx_E hw g6 dX7_count_109 ?_
      exact hE hw (Option.some.inj h) rfl dX7_count_110
    replace h := it_f c16 h
    by_cases c17 : l1 = 2
    · replace h := it_t c17 h
      refine lv_tableIn (off := 86) (tgt := 111) hx hb dX7_count_25 (by rw [c17]; decide) (by rw [c17]; decide) (by rw [c17]; rfl) (by decide) ?_
      refine lv_aload_n hx hb dX7_count_111 rfl (lv_at hl 0 rfl) ?_
      obtain ⟨v7, k8, h⟩ := it_b h
      refine kV_i (As := []) (rest := []) (q := 0) hx_E hw (c_X7_edges l K ad hI   σ k8) mi_X7_edges mv_X7_edges ml_X7_69 (by decide) rfl rfl rfl ⟨⟨Nat.le_of_ble_eq_true rfl, Nat.le_of_ble_eq_true rfl⟩, rfl, rfl⟩ ⟨Nat.zero_le _, Nat.zero_le _⟩ hl.1 rfl (Nat.le_of_ble_eq_true rfl) dX7_count_112 (fun H locs hw => ?_)
      exact hE hw (Option.some.inj h) rfl dX7_count_115
    replace h := it_f c17 h
    by_cases c18 : l1 = 3
    · replace h := it_t c18 h
      refine lv_tableIn (off := 91) (tgt := 116) hx hb dX7_count_25 (by rw [c18]; decide) (by rw [c18]; decide) (by rw [c18]; rfl) (by decide) ?_
      refine lv_aload_n hx hb dX7_count_116 rfl (lv_at hl 0 rfl) ?_
      refine lv_iload_n hx hb dX7_count_117 rfl (lv_at hl 1 rfl) ?_
      refine lv_iconst (v := 3) hx hb dX7_count_118 (by decide) ?_
      refine lv_isub hx hb dX7_count_119 ?_
      obtain ⟨v9, k10, h⟩ := it_b h
      refine kV_i (As := [.int (l1 - (3 : Int32))]) (rest := []) (q := 0) hx_E hw (c_X7_marked l K ad hI  (l1 - (3 : Int32)) σ k10) mi_X7_marked mv_X7_marked ml_X7_193 (by decide) rfl rfl rfl ⟨⟨Nat.le_of_ble_eq_true rfl, Nat.le_of_ble_eq_true rfl⟩, rfl, rfl⟩ ⟨Nat.zero_le _, Nat.zero_le _⟩ hl.1 rfl (Nat.le_of_ble_eq_true rfl) dX7_count_120 (fun H locs hw => ?_)
      exact hE hw (Option.some.inj h) rfl dX7_count_123
    replace h := it_f c18 h
    by_cases c19 : l1 = 4
    · replace h := it_t c19 h
      refine lv_tableIn (off := 91) (tgt := 116) hx hb dX7_count_25 (by rw [c19]; decide) (by rw [c19]; decide) (by rw [c19]; rfl) (by decide) ?_
      refine lv_aload_n hx hb dX7_count_116 rfl (lv_at hl 0 rfl) ?_
      refine lv_iload_n hx hb dX7_count_117 rfl (lv_at hl 1 rfl) ?_
      refine lv_iconst (v := 3) hx hb dX7_count_118 (by decide) ?_
      refine lv_isub hx hb dX7_count_119 ?_
      obtain ⟨v11, k12, h⟩ := it_b h
      refine kV_i (As := [.int (l1 - (3 : Int32))]) (rest := []) (q := 0) hx_E hw (c_X7_marked l K ad hI  (l1 - (3 : Int32)) σ k12) mi_X7_marked mv_X7_marked ml_X7_193 (by decide) rfl rfl rfl ⟨⟨Nat.le_of_ble_eq_true rfl, Nat.le_of_ble_eq_true rfl⟩, rfl, rfl⟩ ⟨Nat.zero_le _, Nat.zero_le _⟩ hl.1 rfl (Nat.le_of_ble_eq_true rfl) dX7_count_120 (fun H locs hw => ?_)
      exact hE hw (Option.some.inj h) rfl dX7_count_123
    replace h := it_f c19 h
    by_cases c20 : l1 = 5
    · replace h := it_t c20 h
      refine lv_tableIn (off := 99) (tgt := 124) hx hb dX7_count_25 (by rw [c20]; decide) (by rw [c20]; decide) (by rw [c20]; rfl) (by decide) ?_
      refine lv_aload_n hx hb dX7_count_124 rfl (lv_at hl 0 rfl) ?_
      obtain ⟨v13, k14, h⟩ := it_b h
      refine kV_i (As := []) (rest := []) (q := 0) hx_E hw (c_X7_counts l K ad hI   σ k14) mi_X7_counts mv_X7_counts ml_X7_224 (by decide) rfl rfl rfl ⟨⟨Nat.le_of_ble_eq_true rfl, Nat.le_of_ble_eq_true rfl⟩, rfl, rfl⟩ ⟨Nat.zero_le _, Nat.zero_le _⟩ hl.1 rfl (Nat.le_of_ble_eq_true rfl) dX7_count_125 (fun H locs hw => ?_)
      exact hE hw (Option.some.inj h) rfl dX7_count_128
    replace h := it_f c20 h
    by_cases c21 : l1 = 6
    · replace h := it_t c21 h
      refine lv_tableIn (off := 114) (tgt := 139) hx hb dX7_count_25 (by rw [c21]; decide) (by rw [c21]; decide) (by rw [c21]; rfl) (by decide) ?_
      refine lv_bipush (v := -2) hx hb dX7_count_139 (by decide) ?_
      exact hE hw (Option.some.inj h) rfl dX7_count_141
    replace h := it_f c21 h
    by_cases c22 : l1 = 7
    · replace h := it_t c22 h
      refine lv_tableIn (off := 114) (tgt := 139) hx hb dX7_count_25 (by rw [c22]; decide) (by rw [c22]; decide) (by rw [c22]; rfl) (by decide) ?_
      refine lv_bipush (v := -2) hx hb dX7_count_139 (by decide) ?_
      exact hE hw (Option.some.inj h) rfl dX7_count_141
    replace h := it_f c22 h
    by_cases c23 : l1 = 8
    · replace h := it_t c23 h
      refine lv_tableIn (off := 114) (tgt := 139) hx hb dX7_count_25 (by rw [c23]; decide) (by rw [c23]; decide) (by rw [c23]; rfl) (by decide) ?_
      refine lv_bipush (v := -2) hx hb dX7_count_139 (by decide) ?_
      exact hE hw (Option.some.inj h) rfl dX7_count_141
    replace h := it_f c23 h
    by_cases c24 : l1 = 9
    · replace h := it_t c24 h
      refine lv_tableIn (off := 114) (tgt := 139) hx hb dX7_count_25 (by rw [c24]; decide) (by rw [c24]; decide) (by rw [c24]; rfl) (by decide) ?_
      refine lv_bipush (v := -2) hx hb dX7_count_139 (by decide) ?_
      exact hE hw (Option.some.inj h) rfl dX7_count_141
    replace h := it_f c24 h
    by_cases c25 : l1 = 10
    · replace h := it_t c25 h
      refine lv_tableIn (off := 114) (tgt := 139) hx hb dX7_count_25 (by rw [c25]; decide) (by rw [c25]; decide) (by rw [c25]; rfl) (by decide) ?_
      refine lv_bipush (v := -2) hx hb dX7_count_139 (by decide) ?_
      exact hE hw (Option.some.inj h) rfl dX7_count_141
    replace h := it_f c25 h
    by_cases c26 : l1 = 11
    · replace h := it_t c26 h
      refine lv_tableIn (off := 114) (tgt := 139) hx hb dX7_count_25 (by rw [c26]; decide) (by rw [c26]; decide) (by rw [c26]; rfl) (by decide) ?_
      refine lv_bipush (v := -2) hx hb dX7_count_139 (by decide) ?_
      exact hE hw (Option.some.inj h) rfl dX7_count_141
    replace h := it_f c26 h
    by_cases c27 : l1 = 12
    · replace h := it_t c27 h
      refine lv_tableIn (off := 114) (tgt := 139) hx hb dX7_count_25 (by rw [c27]; decide) (by rw [c27]; decide) (by rw [c27]; rfl) (by decide) ?_
      refine lv_bipush (v := -2) hx hb dX7_count_139 (by decide) ?_
      exact hE hw (Option.some.inj h) rfl dX7_count_141
    replace h := it_f c27 h
    by_cases c28 : l1 = 13
    · replace h := it_t c28 h
      refine lv_tableIn (off := 114) (tgt := 139) hx hb dX7_count_25 (by rw [c28]; decide) (by rw [c28]; decide) (by rw [c28]; rfl) (by decide) ?_
      refine lv_bipush (v := -2) hx hb dX7_count_139 (by decide) ?_
      exact hE hw (Option.some.inj h) rfl dX7_count_141
    replace h := it_f c28 h
    by_cases c29 : l1 = 14
    · replace h := it_t c29 h
      refine lv_tableIn (off := 104) (tgt := 129) hx hb dX7_count_25 (by rw [c29]; decide) (by rw [c29]; decide) (by rw [c29]; rfl) (by decide) ?_
      refine lv_aload_n hx hb dX7_count_129 rfl (lv_at hl 0 rfl) ?_
      refine gM_0_2 hx_E hw fl_X7_44 dX7_count_130 ?_
      exact hE hw (Option.some.inj h) rfl dX7_count_133
    replace h := it_f c29 h
    by_cases c30 : l1 = 15
    · replace h := it_t c30 h
      refine lv_tableIn (off := 109) (tgt := 134) hx hb dX7_count_25 (by rw [c30]; decide) (by rw [c30]; decide) (by rw [c30]; rfl) (by decide) ?_
      refine lv_aload_n hx hb dX7_count_134 rfl (lv_at hl 0 rfl) ?_
      refine gM_0_4 hx_E hw fl_X7_166 dX7_count_135 ?_
      exact hE hw (Option.some.inj h) rfl dX7_count_138
    replace h := it_f c30 h
    refine lv_tableOut (tgt := 139) hx hb dX7_count_25 (sw_out0_15 c15 c16 c17 c18 c19 c20 c21 c22 c23 c24 c25 c26 c27 c28 c29 c30) (by decide) ?_
    refine lv_bipush (v := -2) hx hb dX7_count_139 (by decide) ?_
    exact hE hw (Option.some.inj h) rfl dX7_count_141
  · replace h := it_f c4 h
    refine lv_aload_n hx hb dX7_count_11 rfl (lv_at hl 0 rfl) ?_
    refine gM_0_0 hx_E hw fl_X7_7 dX7_count_12 ?_
    refine lv_bipush (v := 58) hx hb dX7_count_15 (by decide) ?_
    refine lv_iload_n hx hb dX7_count_17 rfl (lv_at hl 1 rfl) ?_
    refine lv_iadd hx hb dX7_count_18 ?_
    refine lv_bipush (v := 6) hx hb dX7_count_19 (by decide) ?_
    refine lv_isub hx hb dX7_count_21 ?_
    obtain ⟨g31, h⟩ := it_g h
    refine aM_1 hx_E hw g31 dX7_count_22 ?_
    exact hE hw (Option.some.inj h) rfl dX7_count_23
set_option maxHeartbeats 4000000 in
set_option maxRecDepth 100000 in
theorem c_X7_mixes (l : Launch) (K : vK) (ad : Nat → Nat) (hI : adInj 12 ad) (l1 : Int32) (σ : vSt) {σ' : vSt} (h : f_X7_mixes l1 σ = some σ') : MCv l yX7_mixes (wsY yX7_mixes cX7_mixes 2 none) (rmF 1 0) K 12 ad (cM K ad) [.ref (ad 0), .int l1] σ σ' := by
  refine MCv_of (own := RX7) (plainFor_of_name (by decide)) hI rfl (Nat.le_of_ble_eq_true rfl) ?_
  intro p e s m args below meth c A Q hx_E hE H locs ls hw hl
  have hx := hx_E.1; have hb := hx_E.2.1; have hown := hx_E.2.2.2.1; have hts := hx_E.2.2.2.2.1
  replace hl : lv_has ls 2 [(0, .ref (ad 0)), (1, .int l1)] := hl
  unfold f_X7_mixes at h
  refine lv_aload_n hx hb dX7_mixes_0 rfl (lv_at hl 0 rfl) ?_
  refine lv_ldc2 (v := 31) hx hb hown (hts _ kl_X7_227) dX7_mixes_1 ?_
  refine lv_aload_n hx hb dX7_mixes_4 rfl (lv_at hl 0 rfl) ?_
  refine gM_0_29 hx_E hw fl_X7_229 dX7_mixes_5 ?_
  refine lv_lmul hx hb dX7_mixes_8 ?_
  refine lv_iload_n hx hb dX7_mixes_9 rfl (lv_at hl 1 rfl) ?_
  refine lv_i2l (v := l1.toInt64) hx hb dX7_mixes_10 rfl ?_
  refine lv_ladd hx hb dX7_mixes_11 ?_
  refine pM_0_29 hx_E hw fl_X7_229 dX7_mixes_12 (fun H locs hw => ?_)
  exact hE hw (Option.some.inj h) dX7_mixes_15
