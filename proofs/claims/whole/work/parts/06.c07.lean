set_option maxHeartbeats 4000000 in
set_option maxRecDepth 100000 in
theorem c_X7_byRings (l : Launch) (K : vK) (ad : Nat → Nat) (hI : adInj 12 ad) (σ : vSt) {r : Int32} {σ' : vSt} (h : f_X7_byRings σ = some (r, σ')) : MCz l yX7_byRings (wsY yX7_byRings cX7_byRings 3 (some .boolean)) (rmF 5 94) K 12 ad (cM K ad) [.ref (ad 0)] σ r σ' := by
  refine MCz_of (own := RX7) (plainFor_of_name (by decide)) hI rfl (Nat.le_of_ble_eq_true rfl) ?_
  intro p e s m args below meth c A Q hx_E hE H locs ls hw hl
  have hx := hx_E.1; have hb := hx_E.2.1; have hown := hx_E.2.2.2.1; have hts := hx_E.2.2.2.2.1
  replace hl : lv_has ls 3 [(0, .ref (ad 0))] := hl
  unfold f_X7_byRings at h
  refine lv_aload_n hx hb dX7_byRings_0 rfl (lv_at hl 0 rfl) ?_
  obtain ⟨σ1, k2, h⟩ := it_b h
  refine kV_v (As := []) (rest := []) (q := 0) hx_E hw (c_X7_joins l K ad hI   σ k2) mi_X7_joins mv_X7_joins ml_X7_94 (by decide) rfl rfl rfl ⟨⟨Nat.le_of_ble_eq_true rfl, Nat.le_of_ble_eq_true rfl⟩, rfl, rfl⟩ ⟨Nat.zero_le _, Nat.zero_le _⟩ hl.1 rfl (Nat.le_of_ble_eq_true rfl) dX7_byRings_1 (fun H locs hw => ?_)
  refine lv_iconst (v := 0) hx hb dX7_byRings_4 (by decide) ?_
  refine lv_istore_n (lv' := [(1, .int (0 : Int32)), (0, .ref (ad 0))]) hx hb dX7_byRings_5 rfl hl (by decide) rfl (fun ls hl => ?_)
  obtain ⟨φ8, h9, h_φ8⟩ := it_b h
  have hJ7 : ∀ (σ5 : vSt), .inr σ5 = φ8 → ∀ (H : Heap) (locs : List Loc) (ls : Array Slot), PW K 12 ad (cM K ad) A s.heap σ5 H locs → lv_has ls 3 [] → W p l e (rmF 5 94) s m args below meth c H locs 0 0 Q (F0 m 111 ls []) := by
    intro σ5 e9 H locs ls hw hl
    subst e9
    replace h := h_φ8
    refine lv_iconst (v := 0) hx hb dX7_byRings_111 (by decide) ?_
    exact hE hw (congrArg Prod.fst (Option.some.inj h)) (congrArg Prod.snd (Option.some.inj h)) (Or.inl rfl) dX7_byRings_112
  have hL6 : ∀ (n9 : Nat) (v3 : Int32) (σ4 : vSt), ∀ (H : Heap) (locs : List Loc) (ls : Array Slot), f_X7_byRings_6  n9 v3 σ4 = some φ8 → PW K 12 ad (cM K ad) A s.heap σ4 H locs → lv_has ls 3 [(0, .ref (ad 0)), (1, .int v3)] → W p l e (rmF 5 94) s m args below meth c H locs 0 0 Q (F0 m 6 ls []) := by
    intro n9
    induction n9 with
    | zero => intro v3 σ4 H locs ls h hw hl; rw [f_X7_byRings_6.eq_1] at h; exact it_n h
    | succ n9 ih =>
      intro v3 σ4 H locs ls h hw hl
      rw [f_X7_byRings_6.eq_2] at h
      refine lv_iload_n hx hb dX7_byRings_6 rfl (lv_at hl 1 rfl) ?_
      refine lv_aload_n hx hb dX7_byRings_7 rfl (lv_at hl 0 rfl) ?_
      obtain ⟨v9, k10, h⟩ := it_b h
      refine kV_i (As := []) (rest := [.int v3]) (q := 0) hx_E hw (c_X7_edges l K ad hI   σ4 k10) mi_X7_edges mv_X7_edges ml_X7_69 (by decide) rfl rfl rfl ⟨⟨Nat.le_of_ble_eq_true rfl, Nat.le_of_ble_eq_true rfl⟩, rfl, rfl⟩ ⟨Nat.zero_le _, Nat.zero_le _⟩ hl.1 rfl (Nat.le_of_ble_eq_true rfl) dX7_byRings_8 (fun H locs hw => ?_)
      refine lv_icmp_ge (tgt := 111) hx hb dX7_byRings_11 (by decide) (fun c11 => ?_) (fun c11 => ?_)
      · replace h := it_t c11 h
        have e9 := Option.some.inj h
        subst e9
        exact hJ7 _ rfl  H locs ls hw (lv_sub hl [] rfl)
      · replace h := it_f c11 h
        refine lv_aload_n hx hb dX7_byRings_14 rfl (lv_at hl 0 rfl) ?_
        refine lv_iload_n hx hb dX7_byRings_15 rfl (lv_at hl 1 rfl) ?_
        obtain ⟨v12, k13, h⟩ := it_b h
        refine kV_i (As := [.int v3]) (rest := []) (q := 0) hx_E hw (c_X7_markOf l K ad hI  v3 σ4 k13) mi_X7_markOf mv_X7_markOf ml_X7_56 (by decide) rfl rfl rfl ⟨⟨Nat.le_of_ble_eq_true rfl, Nat.le_of_ble_eq_true rfl⟩, rfl, rfl⟩ ⟨Nat.zero_le _, Nat.zero_le _⟩ hl.1 rfl (Nat.le_of_ble_eq_true rfl) dX7_byRings_16 (fun H locs hw => ?_)
        refine lv_if_ne (tgt := 105) hx hb dX7_byRings_19 (by decide) (fun c14 => ?_) (fun c14 => ?_)
        · replace h := it_f c14 h
          refine lv_iinc (v := (v3 + 1)) (lv' := [(1, .int (v3 + 1)), (0, .ref (ad 0))]) hx hb dX7_byRings_105 hl (k := 1) rfl rfl (by decide) rfl (fun ls hl => ?_)
          refine lv_goto (tgt := 6) hx hb dX7_byRings_108 (by decide) ?_
          exact ih _ _  H locs ls h hw (lv_sub hl [1, 0] rfl)
        · replace h := it_t c14 h
          refine lv_aload_n hx hb dX7_byRings_22 rfl (lv_at hl 0 rfl) ?_
          refine lv_aload_n hx hb dX7_byRings_23 rfl (lv_at hl 0 rfl) ?_
          refine lv_iload_n hx hb dX7_byRings_24 rfl (lv_at hl 1 rfl) ?_
          refine lv_iconst (v := 0) hx hb dX7_byRings_25 (by decide) ?_
          obtain ⟨v15, k16, h⟩ := it_b h
          refine kV_i (As := [.int v3, .int (0 : Int32)]) (rest := [.ref (ad 0)]) (q := 0) hx_E hw (c_X7_end l K ad hI  v3 (0 : Int32) σ4 k16) mi_X7_end mv_X7_end ml_X7_72 (by decide) rfl rfl rfl ⟨⟨Nat.le_of_ble_eq_true rfl, Nat.le_of_ble_eq_true rfl⟩, rfl, rfl⟩ ⟨Nat.zero_le _, Nat.zero_le _⟩ hl.1 rfl (Nat.le_of_ble_eq_true rfl) dX7_byRings_26 (fun H locs hw => ?_)
          obtain ⟨v17, k18, h⟩ := it_b h
          refine kV_i (As := [.int v15]) (rest := []) (q := 0) hx_E hw (c_X7_top l K ad hI  v15 σ4 k18) mi_X7_top mv_X7_top ml_X7_76 (by decide) rfl rfl rfl ⟨⟨Nat.le_of_ble_eq_true rfl, Nat.le_of_ble_eq_true rfl⟩, rfl, rfl⟩ ⟨Nat.zero_le _, Nat.zero_le _⟩ hl.1 rfl (Nat.le_of_ble_eq_true rfl) dX7_byRings_29 (fun H locs hw => ?_)
          refine lv_aload_n hx hb dX7_byRings_32 rfl (lv_at hl 0 rfl) ?_
          refine lv_aload_n hx hb dX7_byRings_33 rfl (lv_at hl 0 rfl) ?_
          refine lv_iload_n hx hb dX7_byRings_34 rfl (lv_at hl 1 rfl) ?_
          refine lv_iconst (v := 1) hx hb dX7_byRings_35 (by decide) ?_
          obtain ⟨v19, k20, h⟩ := it_b h
          refine kV_i (As := [.int v3, .int (1 : Int32)]) (rest := [.ref (ad 0), .int v17]) (q := 0) hx_E hw (c_X7_end l K ad hI  v3 (1 : Int32) σ4 k20) mi_X7_end mv_X7_end ml_X7_72 (by decide) rfl rfl rfl ⟨⟨Nat.le_of_ble_eq_true rfl, Nat.le_of_ble_eq_true rfl⟩, rfl, rfl⟩ ⟨Nat.zero_le _, Nat.zero_le _⟩ hl.1 rfl (Nat.le_of_ble_eq_true rfl) dX7_byRings_36 (fun H locs hw => ?_)
          obtain ⟨v21, k22, h⟩ := it_b h
          refine kV_i (As := [.int v19]) (rest := [.int v17]) (q := 0) hx_E hw (c_X7_top l K ad hI  v19 σ4 k22) mi_X7_top mv_X7_top ml_X7_76 (by decide) rfl rfl rfl ⟨⟨Nat.le_of_ble_eq_true rfl, Nat.le_of_ble_eq_true rfl⟩, rfl, rfl⟩ ⟨Nat.zero_le _, Nat.zero_le _⟩ hl.1 rfl (Nat.le_of_ble_eq_true rfl) dX7_byRings_39 (fun H locs hw => ?_)
          refine lv_icmp_ne (tgt := 105) hx hb dX7_byRings_42 (by decide) (fun c23 => ?_) (fun c23 => ?_)
          · replace h := it_f c23 h
            refine lv_iinc (v := (v3 + 1)) (lv' := [(1, .int (v3 + 1)), (0, .ref (ad 0))]) hx hb dX7_byRings_105 hl (k := 1) rfl rfl (by decide) rfl (fun ls hl => ?_)
            refine lv_goto (tgt := 6) hx hb dX7_byRings_108 (by decide) ?_
            exact ih _ _  H locs ls h hw (lv_sub hl [1, 0] rfl)
          · replace h := it_t c23 h
            refine lv_aload_n hx hb dX7_byRings_45 rfl (lv_at hl 0 rfl) ?_
            refine gM_0_0 hx_E hw fl_X7_7 dX7_byRings_46 ?_
            refine lv_bipush (v := 18) hx hb dX7_byRings_49 (by decide) ?_
            refine lv_iload_n hx hb dX7_byRings_51 rfl (lv_at hl 1 rfl) ?_
            refine lv_iadd hx hb dX7_byRings_52 ?_
            refine lv_iconst (v := 1) hx hb dX7_byRings_53 (by decide) ?_
            obtain ⟨g24, h⟩ := it_g h
            refine sM_1 hx_E hw g24 dX7_byRings_54 (fun H locs hw => ?_)
            refine lv_aload_n hx hb dX7_byRings_55 rfl (lv_at hl 0 rfl) ?_
            obtain ⟨v25, k26, h⟩ := it_b h
            refine kV_z (As := []) (rest := []) (q := 0) hx_E hw (c_X7_areMet l K ad hI   (sI σ4 1 ((18 : Int32) + v3).toNatClampNeg (1 : Int32)) k26) mi_X7_areMet mv_X7_areMet ml_X7_104 (by decide) rfl rfl rfl ⟨⟨Nat.le_of_ble_eq_true rfl, Nat.le_of_ble_eq_true rfl⟩, rfl, rfl⟩ ⟨Nat.zero_le _, Nat.zero_le _⟩ hl.1 rfl (Nat.le_of_ble_eq_true rfl) dX7_byRings_56 (fun z27 H locs hw => ?_)
            refine lv_istore_n (lv' := [(2, .int v25), (0, .ref (ad 0)), (1, .int v3)]) hx hb dX7_byRings_59 rfl hl (by decide) rfl (fun ls hl => ?_)
            refine lv_aload_n hx hb dX7_byRings_60 rfl (lv_at hl 1 rfl) ?_
            refine gM_0_0 hx_E hw fl_X7_7 dX7_byRings_61 ?_
            refine lv_bipush (v := 18) hx hb dX7_byRings_64 (by decide) ?_
            refine lv_iload_n hx hb dX7_byRings_66 rfl (lv_at hl 2 rfl) ?_
            refine lv_iadd hx hb dX7_byRings_67 ?_
            refine lv_iconst (v := 0) hx hb dX7_byRings_68 (by decide) ?_
            obtain ⟨g28, h⟩ := it_g h
            refine sM_1 hx_E hw g28 dX7_byRings_69 (fun H locs hw => ?_)
            refine lv_iload_n hx hb dX7_byRings_70 rfl (lv_at hl 0 rfl) ?_
            refine lv_if_eq (tgt := 96) hx hb dX7_byRings_71 (by decide) (fun c29 => ?_) (fun c29 => ?_)
            · replace h := it_t c29 h
              refine lv_aload_n hx hb dX7_byRings_96 rfl (lv_at hl 1 rfl) ?_
              refine lv_iconst (v := 5) hx hb dX7_byRings_97 (by decide) ?_
              refine lv_iload_n hx hb dX7_byRings_98 rfl (lv_at hl 2 rfl) ?_
              refine lv_iconst (v := 2) hx hb dX7_byRings_99 (by decide) ?_
              refine lv_iconst (v := -1) hx hb dX7_byRings_100 (by decide) ?_
              obtain ⟨⟨v30, σ31⟩, k32, h⟩ := it_b h
              refine kV_z (As := [.int (5 : Int32), .int v3, .int (2 : Int32), .int (-1 : Int32)]) (rest := []) (q := 0) hx_E hw (c_X7_finds l K ad hI  (5 : Int32) v3 (2 : Int32) (-1 : Int32) (sI (sI σ4 1 ((18 : Int32) + v3).toNatClampNeg (1 : Int32)) 1 ((18 : Int32) + v3).toNatClampNeg (0 : Int32)) k32) mi_X7_finds mv_X7_finds ml_X7_130 (by decide) rfl rfl rfl ⟨⟨Nat.le_of_ble_eq_true rfl, Nat.le_of_ble_eq_true rfl⟩, rfl, rfl⟩ ⟨Nat.zero_le _, Nat.zero_le _⟩ hl.1 rfl (Nat.le_of_ble_eq_true rfl) dX7_byRings_101 (fun z33 H locs hw => ?_)
              have e9 := Option.some.inj h
              subst e9
              replace h := h_φ8
              exact hE hw (congrArg Prod.fst (Option.some.inj h)) (congrArg Prod.snd (Option.some.inj h)) z33 dX7_byRings_104
            · replace h := it_f c29 h
              refine lv_aload_n hx hb dX7_byRings_74 rfl (lv_at hl 1 rfl) ?_
              refine gM_0_6 hx_E hw fl_X7_22 dX7_byRings_75 ?_
              refine lv_aload_n hx hb dX7_byRings_78 rfl (lv_at hl 1 rfl) ?_
              refine lv_aload_n hx hb dX7_byRings_79 rfl (lv_at hl 1 rfl) ?_
              refine lv_iload_n hx hb dX7_byRings_80 rfl (lv_at hl 2 rfl) ?_
              refine lv_iconst (v := 0) hx hb dX7_byRings_81 (by decide) ?_
              obtain ⟨v34, k35, h⟩ := it_b h
              refine kV_i (As := [.int v3, .int (0 : Int32)]) (rest := [.ref (ad 0), .ref (ad 5)]) (q := 0) hx_E hw (c_X7_end l K ad hI  v3 (0 : Int32) (sI (sI σ4 1 ((18 : Int32) + v3).toNatClampNeg (1 : Int32)) 1 ((18 : Int32) + v3).toNatClampNeg (0 : Int32)) k35) mi_X7_end mv_X7_end ml_X7_72 (by decide) rfl rfl rfl ⟨⟨Nat.le_of_ble_eq_true rfl, Nat.le_of_ble_eq_true rfl⟩, rfl, rfl⟩ ⟨Nat.zero_le _, Nat.zero_le _⟩ hl.1 rfl (Nat.le_of_ble_eq_true rfl) dX7_byRings_82 (fun H locs hw => ?_)
              obtain ⟨v36, k37, h⟩ := it_b h
              refine kV_i (As := [.int v34]) (rest := [.ref (ad 5)]) (q := 0) hx_E hw (c_X7_top l K ad hI  v34 (sI (sI σ4 1 ((18 : Int32) + v3).toNatClampNeg (1 : Int32)) 1 ((18 : Int32) + v3).toNatClampNeg (0 : Int32)) k37) mi_X7_top mv_X7_top ml_X7_76 (by decide) rfl rfl rfl ⟨⟨Nat.le_of_ble_eq_true rfl, Nat.le_of_ble_eq_true rfl⟩, rfl, rfl⟩ ⟨Nat.zero_le _, Nat.zero_le _⟩ hl.1 rfl (Nat.le_of_ble_eq_true rfl) dX7_byRings_85 (fun H locs hw => ?_)
              obtain ⟨g38, h⟩ := it_g h
              refine aM_5 hx_E hw g38 dX7_byRings_88 ?_
              refine lv_aload_n hx hb dX7_byRings_89 rfl (lv_at hl 1 rfl) ?_
              refine gM_0_8 hx_E hw fl_X7_66 dX7_byRings_90 ?_
              refine lv_icmp_eq (tgt := 105) hx hb dX7_byRings_93 (by decide) (fun c39 => ?_) (fun c39 => ?_)
              · replace h := it_t c39 h
                refine lv_iinc (v := (v3 + 1)) (lv' := [(1, .int (v3 + 1)), (2, .int v25), (0, .ref (ad 0))]) hx hb dX7_byRings_105 hl (k := 2) rfl rfl (by decide) rfl (fun ls hl => ?_)
                refine lv_goto (tgt := 6) hx hb dX7_byRings_108 (by decide) ?_
                exact ih _ _  H locs ls h hw (lv_sub hl [2, 0] rfl)
              · replace h := it_f c39 h
                refine lv_aload_n hx hb dX7_byRings_96 rfl (lv_at hl 1 rfl) ?_
                refine lv_iconst (v := 5) hx hb dX7_byRings_97 (by decide) ?_
                refine lv_iload_n hx hb dX7_byRings_98 rfl (lv_at hl 2 rfl) ?_
                refine lv_iconst (v := 2) hx hb dX7_byRings_99 (by decide) ?_
                refine lv_iconst (v := -1) hx hb dX7_byRings_100 (by decide) ?_
                obtain ⟨⟨v40, σ41⟩, k42, h⟩ := it_b h
                refine kV_z (As := [.int (5 : Int32), .int v3, .int (2 : Int32), .int (-1 : Int32)]) (rest := []) (q := 0) hx_E hw (c_X7_finds l K ad hI  (5 : Int32) v3 (2 : Int32) (-1 : Int32) (sI (sI σ4 1 ((18 : Int32) + v3).toNatClampNeg (1 : Int32)) 1 ((18 : Int32) + v3).toNatClampNeg (0 : Int32)) k42) mi_X7_finds mv_X7_finds ml_X7_130 (by decide) rfl rfl rfl ⟨⟨Nat.le_of_ble_eq_true rfl, Nat.le_of_ble_eq_true rfl⟩, rfl, rfl⟩ ⟨Nat.zero_le _, Nat.zero_le _⟩ hl.1 rfl (Nat.le_of_ble_eq_true rfl) dX7_byRings_101 (fun z43 H locs hw => ?_)
                have e9 := Option.some.inj h
                subst e9
                replace h := h_φ8
                exact hE hw (congrArg Prod.fst (Option.some.inj h)) (congrArg Prod.snd (Option.some.inj h)) z43 dX7_byRings_104
  exact hL6 600 _ _  H locs ls h9 hw (lv_sub hl [1, 0] rfl)
set_option maxHeartbeats 4000000 in
set_option maxRecDepth 100000 in
theorem c_X7_findsPlain (l : Launch) (K : vK) (ad : Nat → Nat) (hI : adInj 12 ad) (l1 : Int32) (σ : vSt) {r : Int32} {σ' : vSt} (h : f_X7_findsPlain l1 σ = some (r, σ')) : MCz l yX7_findsPlain (wsY yX7_findsPlain cX7_findsPlain 5 (some .boolean)) (rmF 7 137) K 12 ad (cM K ad) [.ref (ad 0), .int l1] σ r σ' := by
  refine MCz_of (own := RX7) (plainFor_of_name (by decide)) hI rfl (Nat.le_of_ble_eq_true rfl) ?_
  intro p e s m args below meth c A Q hx_E hE H locs ls hw hl
  have hx := hx_E.1; have hb := hx_E.2.1; have hown := hx_E.2.2.2.1; have hts := hx_E.2.2.2.2.1
  replace hl : lv_has ls 5 [(0, .ref (ad 0)), (1, .int l1)] := hl
  unfold f_X7_findsPlain at h
  refine lv_aload_n hx hb dX7_findsPlain_0 rfl (lv_at hl 0 rfl) ?_
  obtain ⟨⟨v1, σ2⟩, k3, h⟩ := it_b h
  refine kV_z (As := []) (rest := []) (q := 0) hx_E hw (c_X7_fits l K ad hI   σ k3) mi_X7_fits mv_X7_fits ml_X7_137 (by decide) rfl rfl rfl ⟨⟨Nat.le_of_ble_eq_true rfl, Nat.le_of_ble_eq_true rfl⟩, rfl, rfl⟩ ⟨Nat.zero_le _, Nat.zero_le _⟩ hl.1 rfl (Nat.le_of_ble_eq_true rfl) dX7_findsPlain_1 (fun z4 H locs hw => ?_)
  obtain ⟨φ8, h9, h_φ8⟩ := it_b h
  have hJ7 : ∀ (v6 : Int32), v6 = φ8 → (v6 = 0 ∨ v6 = 1) → ∀ (H : Heap) (locs : List Loc) (ls : Array Slot), PW K 12 ad (cM K ad) A s.heap σ2 H locs → lv_has ls 5 [(0, .ref (ad 0)), (1, .int l1)] → W p l e (rmF 7 137) s m args below meth c H locs 0 0 Q (F0 m 19 ls [.int v6]) := by
    intro v6 e9 z_v6 H locs ls hw hl
    subst e9
    replace h := h_φ8
    refine lv_istore_n (lv' := [(2, .int v6), (0, .ref (ad 0)), (1, .int l1)]) hx hb dX7_findsPlain_19 rfl hl (by decide) rfl (fun ls hl => ?_)
    refine lv_iload_n hx hb dX7_findsPlain_20 rfl (lv_at hl 0 rfl) ?_
    refine lv_if_ne (tgt := 26) hx hb dX7_findsPlain_21 (by decide) (fun c10 => ?_) (fun c10 => ?_)
    · replace h := it_f c10 h
      refine lv_iconst (v := 0) hx hb dX7_findsPlain_26 (by decide) ?_
      refine lv_istore_n (lv' := [(3, .int (0 : Int32)), (2, .int v6), (0, .ref (ad 0)), (1, .int l1)]) hx hb dX7_findsPlain_27 rfl hl (by decide) rfl (fun ls hl => ?_)
      refine lv_iconst (v := 0) hx hb dX7_findsPlain_28 (by decide) ?_
      refine lv_istore (lv' := [(4, .int (0 : Int32)), (3, .int (0 : Int32)), (2, .int v6), (0, .ref (ad 0)), (1, .int l1)]) hx hb dX7_findsPlain_29 hl (by decide) rfl (fun ls hl => ?_)
      obtain ⟨φ18, h9, h_φ18⟩ := it_b h
      have hJ17 : ∀ (v14 : Int32) (σ15 : vSt), (v14, σ15) = φ18 → (v14 = 0 ∨ v14 = 1) → ∀ (H : Heap) (locs : List Loc) (ls : Array Slot), PW K 12 ad (cM K ad) A s.heap σ15 H locs → lv_has ls 5 [(3, .int v14)] → W p l e (rmF 7 137) s m args below meth c H locs 0 0 Q (F0 m 89 ls []) := by
        intro v14 σ15 e9 z_v14 H locs ls hw hl
        subst e9
        replace h := h_φ18
        refine lv_iload_n hx hb dX7_findsPlain_89 rfl (lv_at hl 0 rfl) ?_
        exact hE hw (congrArg Prod.fst (Option.some.inj h)) (congrArg Prod.snd (Option.some.inj h)) z_v14 dX7_findsPlain_90
      have hL16 : ∀ (n9 : Nat) (v11 : Int32) (v12 : Int32) (σ13 : vSt), (v11 = 0 ∨ v11 = 1) → ∀ (H : Heap) (locs : List Loc) (ls : Array Slot), f_X7_findsPlain_31 l1 n9 v11 v12 σ13 = some φ18 → PW K 12 ad (cM K ad) A s.heap σ13 H locs → lv_has ls 5 [(0, .ref (ad 0)), (1, .int l1), (3, .int v11), (4, .int v12)] → W p l e (rmF 7 137) s m args below meth c H locs 0 0 Q (F0 m 31 ls []) := by
        intro n9
        induction n9 with
        | zero => intro v11 v12 σ13 z_v11 H locs ls h hw hl; rw [f_X7_findsPlain_31.eq_1] at h; exact it_n h
        | succ n9 ih =>
          intro v11 v12 σ13 z_v11 H locs ls h hw hl
          rw [f_X7_findsPlain_31.eq_2] at h
          refine lv_iload hx hb dX7_findsPlain_31 (lv_at hl 3 rfl) ?_
          refine lv_iload_n hx hb dX7_findsPlain_33 rfl (lv_at hl 1 rfl) ?_
          refine lv_icmp_gt (tgt := 89) hx hb dX7_findsPlain_34 (by decide) (fun c19 => ?_) (fun c19 => ?_)
          · replace h := it_t c19 h
            have e9 := Option.some.inj h
            subst e9
            exact hJ17 _ _ rfl z_v11 H locs ls hw (lv_sub hl [2] rfl)
          · replace h := it_f c19 h
            refine lv_iload hx hb dX7_findsPlain_37 (lv_at hl 3 rfl) ?_
            refine lv_bipush (v := 6) hx hb dX7_findsPlain_39 (by decide) ?_
            refine lv_icmp_ge (tgt := 89) hx hb dX7_findsPlain_41 (by decide) (fun c20 => ?_) (fun c20 => ?_)
            · replace h := it_t c20 h
              have e9 := Option.some.inj h
              subst e9
              exact hJ17 _ _ rfl z_v11 H locs ls hw (lv_sub hl [2] rfl)
            · replace h := it_f c20 h
              refine lv_iload_n hx hb dX7_findsPlain_44 rfl (lv_at hl 2 rfl) ?_
              refine lv_if_ne (tgt := 89) hx hb dX7_findsPlain_45 (by decide) (fun c21 => ?_) (fun c21 => ?_)
              · replace h := it_f c21 h
                have e9 := Option.some.inj h
                subst e9
                exact hJ17 _ _ rfl z_v11 H locs ls hw (lv_sub hl [2] rfl)
              · replace h := it_t c21 h
                refine lv_iload hx hb dX7_findsPlain_48 (lv_at hl 3 rfl) ?_
                refine lv_iconst (v := 2) hx hb dX7_findsPlain_50 (by decide) ?_
                refine lv_icmp_ge (tgt := 63) hx hb dX7_findsPlain_51 (by decide) (fun c22 => ?_) (fun c22 => ?_)
                · replace h := it_t c22 h
                  refine lv_iload hx hb dX7_findsPlain_63 (lv_at hl 3 rfl) ?_
                  refine lv_iconst (v := 5) hx hb dX7_findsPlain_65 (by decide) ?_
                  refine lv_icmp_ge (tgt := 78) hx hb dX7_findsPlain_66 (by decide) (fun c23 => ?_) (fun c23 => ?_)
                  · replace h := it_t c23 h
                    refine lv_aload_n hx hb dX7_findsPlain_78 rfl (lv_at hl 0 rfl) ?_
                    obtain ⟨⟨v24, σ25⟩, k26, h⟩ := it_b h
                    refine kV_z (As := []) (rest := []) (q := 0) hx_E hw (c_X7_byRings l K ad hI   σ13 k26) mi_X7_byRings mv_X7_byRings ml_X7_146 (by decide) rfl rfl rfl ⟨⟨Nat.le_of_ble_eq_true rfl, Nat.le_of_ble_eq_true rfl⟩, rfl, rfl⟩ ⟨Nat.zero_le _, Nat.zero_le _⟩ hl.1 rfl (Nat.le_of_ble_eq_true rfl) dX7_findsPlain_79 (fun z27 H locs hw => ?_)
                    refine lv_istore_n (lv' := [(3, .int v24), (0, .ref (ad 0)), (1, .int l1), (4, .int v12)]) hx hb dX7_findsPlain_82 rfl hl (by decide) rfl (fun ls hl => ?_)
                    refine lv_iinc (v := (v12 + 1)) (lv' := [(4, .int (v12 + 1)), (3, .int v24), (0, .ref (ad 0)), (1, .int l1)]) hx hb dX7_findsPlain_83 hl (k := 3) rfl rfl (by decide) rfl (fun ls hl => ?_)
                    refine lv_goto (tgt := 31) hx hb dX7_findsPlain_86 (by decide) ?_
                    exact ih _ _ _ z27 H locs ls h hw (lv_sub hl [2, 3, 1, 0] rfl)
                  · replace h := it_f c23 h
                    refine lv_aload_n hx hb dX7_findsPlain_69 rfl (lv_at hl 0 rfl) ?_
                    refine lv_iload hx hb dX7_findsPlain_70 (lv_at hl 3 rfl) ?_
                    obtain ⟨⟨v28, σ29⟩, k30, h⟩ := it_b h
                    refine kV_z (As := [.int v12]) (rest := []) (q := 0) hx_E hw (c_X7_byCorners l K ad hI  v12 σ13 k30) mi_X7_byCorners mv_X7_byCorners ml_X7_143 (by decide) rfl rfl rfl ⟨⟨Nat.le_of_ble_eq_true rfl, Nat.le_of_ble_eq_true rfl⟩, rfl, rfl⟩ ⟨Nat.zero_le _, Nat.zero_le _⟩ hl.1 rfl (Nat.le_of_ble_eq_true rfl) dX7_findsPlain_72 (fun z31 H locs hw => ?_)
                    refine lv_goto (tgt := 82) hx hb dX7_findsPlain_75 (by decide) ?_
                    refine lv_istore_n (lv' := [(3, .int v28), (0, .ref (ad 0)), (1, .int l1), (4, .int v12)]) hx hb dX7_findsPlain_82 rfl hl (by decide) rfl (fun ls hl => ?_)
                    refine lv_iinc (v := (v12 + 1)) (lv' := [(4, .int (v12 + 1)), (3, .int v28), (0, .ref (ad 0)), (1, .int l1)]) hx hb dX7_findsPlain_83 hl (k := 3) rfl rfl (by decide) rfl (fun ls hl => ?_)
                    refine lv_goto (tgt := 31) hx hb dX7_findsPlain_86 (by decide) ?_
                    exact ih _ _ _ z31 H locs ls h hw (lv_sub hl [2, 3, 1, 0] rfl)
                · replace h := it_f c22 h
                  refine lv_aload_n hx hb dX7_findsPlain_54 rfl (lv_at hl 0 rfl) ?_
                  refine lv_iload hx hb dX7_findsPlain_55 (lv_at hl 3 rfl) ?_
                  obtain ⟨⟨v32, σ33⟩, k34, h⟩ := it_b h
                  refine kV_z (As := [.int v12]) (rest := []) (q := 0) hx_E hw (c_X7_byCells l K ad hI  v12 σ13 k34) mi_X7_byCells mv_X7_byCells ml_X7_140 (by decide) rfl rfl rfl ⟨⟨Nat.le_of_ble_eq_true rfl, Nat.le_of_ble_eq_true rfl⟩, rfl, rfl⟩ ⟨Nat.zero_le _, Nat.zero_le _⟩ hl.1 rfl (Nat.le_of_ble_eq_true rfl) dX7_findsPlain_57 (fun z35 H locs hw => ?_)
                  refine lv_goto (tgt := 82) hx hb dX7_findsPlain_60 (by decide) ?_
                  refine lv_istore_n (lv' := [(3, .int v32), (0, .ref (ad 0)), (1, .int l1), (4, .int v12)]) hx hb dX7_findsPlain_82 rfl hl (by decide) rfl (fun ls hl => ?_)
                  refine lv_iinc (v := (v12 + 1)) (lv' := [(4, .int (v12 + 1)), (3, .int v32), (0, .ref (ad 0)), (1, .int l1)]) hx hb dX7_findsPlain_83 hl (k := 3) rfl rfl (by decide) rfl (fun ls hl => ?_)
                  refine lv_goto (tgt := 31) hx hb dX7_findsPlain_86 (by decide) ?_
                  exact ih _ _ _ z35 H locs ls h hw (lv_sub hl [2, 3, 1, 0] rfl)
      exact hL16 600 _ _ _ (Or.inl rfl) H locs ls h9 hw (lv_sub hl [3, 4, 1, 0] rfl)
    · replace h := it_t c10 h
      refine lv_iconst (v := 0) hx hb dX7_findsPlain_24 (by decide) ?_
      exact hE hw (congrArg Prod.fst (Option.some.inj h)) (congrArg Prod.snd (Option.some.inj h)) (Or.inl rfl) dX7_findsPlain_25
  replace h := h9
  refine lv_if_eq (tgt := 18) hx hb dX7_findsPlain_4 (by decide) (fun c5 => ?_) (fun c5 => ?_)
  · replace h := it_t c5 h
    refine lv_iconst (v := 0) hx hb dX7_findsPlain_18 (by decide) ?_
    have e9 := Option.some.inj h
    subst e9
    exact hJ7 _ rfl (Or.inl rfl) H locs ls hw (lv_sub hl [0, 1] rfl)
  · replace h := it_f c5 h
    refine lv_aload_n hx hb dX7_findsPlain_7 rfl (lv_at hl 0 rfl) ?_
    refine gM_0_12 hx_E hw fl_X7_97 dX7_findsPlain_8 ?_
    refine lv_if_ne (tgt := 18) hx hb dX7_findsPlain_11 (by decide) (fun c9 => ?_) (fun c9 => ?_)
    · replace h := it_f c9 h
      refine lv_iconst (v := 0) hx hb dX7_findsPlain_18 (by decide) ?_
      have e9 := Option.some.inj h
      subst e9
      exact hJ7 _ rfl (Or.inl rfl) H locs ls hw (lv_sub hl [0, 1] rfl)
    · replace h := it_t c9 h
      refine lv_iconst (v := 1) hx hb dX7_findsPlain_14 (by decide) ?_
      refine lv_goto (tgt := 19) hx hb dX7_findsPlain_15 (by decide) ?_
      have e9 := Option.some.inj h
      subst e9
      exact hJ7 _ rfl (Or.inr rfl) H locs ls hw (lv_sub hl [0, 1] rfl)
set_option maxHeartbeats 4000000 in
set_option maxRecDepth 100000 in
theorem c_X7_makes (l : Launch) (K : vK) (ad : Nat → Nat) (hI : adInj 12 ad) (σ : vSt) {σ' : vSt} (h : f_X7_makes σ = some σ') : MCv l yX7_makes (wsY yX7_makes cX7_makes 1 none) (rmF 1 0) K 12 ad (cM K ad) [.ref (ad 0)] σ σ' := by
  refine MCv_of (own := RX7) (plainFor_of_name (by decide)) hI rfl (Nat.le_of_ble_eq_true rfl) ?_
  intro p e s m args below meth c A Q hx_E hE H locs ls hw hl
  have hx := hx_E.1; have hb := hx_E.2.1; have hown := hx_E.2.2.2.1; have hts := hx_E.2.2.2.2.1
  replace hl : lv_has ls 1 [(0, .ref (ad 0))] := hl
  unfold f_X7_makes at h
  refine lv_aload_n hx hb dX7_makes_0 rfl (lv_at hl 0 rfl) ?_
  refine gM_0_0 hx_E hw fl_X7_7 dX7_makes_1 ?_
  refine lv_bipush (v := 18) hx hb dX7_makes_4 (by decide) ?_
  refine lv_aload_n hx hb dX7_makes_6 rfl (lv_at hl 0 rfl) ?_
  refine gM_0_14 hx_E hw fl_X7_118 dX7_makes_7 ?_
  refine lv_iadd hx hb dX7_makes_10 ?_
  refine lv_aload_n hx hb dX7_makes_11 rfl (lv_at hl 0 rfl) ?_
  refine gM_0_15 hx_E hw fl_X7_121 dX7_makes_12 ?_
  obtain ⟨g1, h⟩ := it_g h
  refine sM_1 hx_E hw g1 dX7_makes_15 (fun H locs hw => ?_)
  exact hE hw (Option.some.inj h) dX7_makes_16
set_option maxHeartbeats 4000000 in
set_option maxRecDepth 100000 in
theorem c_X7_fails (l : Launch) (K : vK) (ad : Nat → Nat) (hI : adInj 12 ad) (l1 : Int32) (l2 : Int32) (σ : vSt) {r : Int32} {σ' : vSt} (h : f_X7_fails l1 l2 σ = some (r, σ')) : MCz l yX7_fails (wsY yX7_fails cX7_fails 5 (some .boolean)) (rmF 8 161) K 12 ad (cM K ad) [.ref (ad 0), .int l1, .int l2] σ r σ' := by
  refine MCz_of (own := RX7) (plainFor_of_name (by decide)) hI rfl (Nat.le_of_ble_eq_true rfl) ?_
  intro p e s m args below meth c A Q hx_E hE H locs ls hw hl
  have hx := hx_E.1; have hb := hx_E.2.1; have hown := hx_E.2.2.2.1; have hts := hx_E.2.2.2.2.1
  replace hl : lv_has ls 5 [(0, .ref (ad 0)), (1, .int l1), (2, .int l2)] := hl
  unfold f_X7_fails at h
  refine lv_iconst (v := 0) hx hb dX7_fails_0 (by decide) ?_
  refine lv_istore_n (lv' := [(3, .int (0 : Int32)), (0, .ref (ad 0)), (1, .int l1), (2, .int l2)]) hx hb dX7_fails_1 rfl hl (by decide) rfl (fun ls hl => ?_)
  obtain ⟨φ6, h9, h_φ6⟩ := it_b h
  have hJ5 : ∀ (σ3 : vSt), σ3 = φ6 → ∀ (H : Heap) (locs : List Loc) (ls : Array Slot), PW K 12 ad (cM K ad) A s.heap σ3 H locs → lv_has ls 5 [(0, .ref (ad 0)), (1, .int l1), (2, .int l2)] → W p l e (rmF 8 161) s m args below meth c H locs 0 0 Q (F0 m 29 ls []) := by
    intro σ3 e9 H locs ls hw hl
    subst e9
    replace h := h_φ6
    refine lv_aload_n hx hb dX7_fails_29 rfl (lv_at hl 0 rfl) ?_
    refine gM_0_0 hx_E hw fl_X7_7 dX7_fails_30 ?_
    refine lv_bipush (v := 18) hx hb dX7_fails_33 (by decide) ?_
    refine lv_iload_n hx hb dX7_fails_35 rfl (lv_at hl 1 rfl) ?_
    refine lv_iadd hx hb dX7_fails_36 ?_
    refine lv_iload_n hx hb dX7_fails_37 rfl (lv_at hl 2 rfl) ?_
    obtain ⟨g10, h⟩ := it_g h
    refine sM_1 hx_E hw g10 dX7_fails_38 (fun H locs hw => ?_)
    obtain ⟨σ11, e_σ11, h⟩ := it_b h
    replace hw := PW_cast (Option.some.inj e_σ11) hw
    obtain ⟨φ16, h9, h_φ16⟩ := it_b h
    have hJ15 : ∀ (σ13 : vSt), σ13 = φ16 → ∀ (H : Heap) (locs : List Loc) (ls : Array Slot), PW K 12 ad (cM K ad) A s.heap σ13 H locs → lv_has ls 5 [(0, .ref (ad 0))] → W p l e (rmF 8 161) s m args below meth c H locs 0 0 Q (F0 m 54 ls []) := by
      intro σ13 e9 H locs ls hw hl
      subst e9
      replace h := h_φ16
      refine lv_aload_n hx hb dX7_fails_54 rfl (lv_at hl 0 rfl) ?_
      obtain ⟨⟨v24, σ25⟩, k26, h⟩ := it_b h
      refine kV_z (As := []) (rest := []) (q := 0) hx_E hw (c_X7_fits l K ad hI   σ13 k26) mi_X7_fits mv_X7_fits ml_X7_137 (by decide) rfl rfl rfl ⟨⟨Nat.le_of_ble_eq_true rfl, Nat.le_of_ble_eq_true rfl⟩, rfl, rfl⟩ ⟨Nat.zero_le _, Nat.zero_le _⟩ hl.1 rfl (Nat.le_of_ble_eq_true rfl) dX7_fails_55 (fun z27 H locs hw => ?_)
      obtain ⟨φ31, h9, h_φ31⟩ := it_b h
      have hJ30 : ∀ (v29 : Int32), v29 = φ31 → (v29 = 0 ∨ v29 = 1) → ∀ (H : Heap) (locs : List Loc) (ls : Array Slot), PW K 12 ad (cM K ad) A s.heap σ25 H locs → lv_has ls 5 [(0, .ref (ad 0))] → W p l e (rmF 8 161) s m args below meth c H locs 0 0 Q (F0 m 66 ls [.int v29]) := by
        intro v29 e9 z_v29 H locs ls hw hl
        subst e9
        replace h := h_φ31
        refine lv_istore_n (lv' := [(3, .int v29), (0, .ref (ad 0))]) hx hb dX7_fails_66 rfl hl (by decide) rfl (fun ls hl => ?_)
        refine lv_iconst (v := 0) hx hb dX7_fails_67 (by decide) ?_
        refine lv_istore (lv' := [(4, .int (0 : Int32)), (3, .int v29), (0, .ref (ad 0))]) hx hb dX7_fails_68 hl (by decide) rfl (fun ls hl => ?_)
        obtain ⟨φ37, h9, h_φ37⟩ := it_b h
        have hJ36 : ∀ (σ34 : vSt), σ34 = φ37 → ∀ (H : Heap) (locs : List Loc) (ls : Array Slot), PW K 12 ad (cM K ad) A s.heap σ34 H locs → lv_has ls 5 [(3, .int v29)] → W p l e (rmF 8 161) s m args below meth c H locs 0 0 Q (F0 m 100 ls []) := by
          intro σ34 e9 H locs ls hw hl
          subst e9
          replace h := h_φ37
          refine lv_iload_n hx hb dX7_fails_100 rfl (lv_at hl 0 rfl) ?_
          exact hE hw (congrArg Prod.fst (Option.some.inj h)) (congrArg Prod.snd (Option.some.inj h)) z_v29 dX7_fails_101
        have hL35 : ∀ (n9 : Nat) (v32 : Int32) (σ33 : vSt), ∀ (H : Heap) (locs : List Loc) (ls : Array Slot), f_X7_fails_70  n9 v32 σ33 = some φ37 → PW K 12 ad (cM K ad) A s.heap σ33 H locs → lv_has ls 5 [(0, .ref (ad 0)), (3, .int v29), (4, .int v32)] → W p l e (rmF 8 161) s m args below meth c H locs 0 0 Q (F0 m 70 ls []) := by
          intro n9
          induction n9 with
          | zero => intro v32 σ33 H locs ls h hw hl; rw [f_X7_fails_70.eq_1] at h; exact it_n h
          | succ n9 ih =>
            intro v32 σ33 H locs ls h hw hl
            rw [f_X7_fails_70.eq_2] at h
            refine lv_iload hx hb dX7_fails_70 (lv_at hl 2 rfl) ?_
            refine lv_bipush (v := 40) hx hb dX7_fails_72 (by decide) ?_
            refine lv_icmp_ge (tgt := 100) hx hb dX7_fails_74 (by decide) (fun c38 => ?_) (fun c38 => ?_)
            · replace h := it_t c38 h
              have e9 := Option.some.inj h
              subst e9
              exact hJ36 _ rfl  H locs ls hw (lv_sub hl [1] rfl)
            · replace h := it_f c38 h
              refine lv_aload_n hx hb dX7_fails_77 rfl (lv_at hl 0 rfl) ?_
              refine gM_0_0 hx_E hw fl_X7_7 dX7_fails_78 ?_
              refine lv_bipush (v := 18) hx hb dX7_fails_81 (by decide) ?_
              refine lv_iload hx hb dX7_fails_83 (lv_at hl 2 rfl) ?_
              refine lv_iadd hx hb dX7_fails_85 ?_
              refine lv_aload_n hx hb dX7_fails_86 rfl (lv_at hl 0 rfl) ?_
              refine gM_0_17 hx_E hw fl_X7_29 dX7_fails_87 ?_
              refine lv_iload hx hb dX7_fails_90 (lv_at hl 2 rfl) ?_
              obtain ⟨g39, h⟩ := it_g h
              refine aM_7 hx_E hw g39 dX7_fails_92 ?_
              obtain ⟨g40, h⟩ := it_g h
              refine sM_1 hx_E hw g40 dX7_fails_93 (fun H locs hw => ?_)
              refine lv_iinc (v := (v32 + 1)) (lv' := [(4, .int (v32 + 1)), (0, .ref (ad 0)), (3, .int v29)]) hx hb dX7_fails_94 hl (k := 2) rfl rfl (by decide) rfl (fun ls hl => ?_)
              refine lv_goto (tgt := 70) hx hb dX7_fails_97 (by decide) ?_
              exact ih _ _  H locs ls h hw (lv_sub hl [1, 2, 0] rfl)
        exact hL35 600 _ _  H locs ls h9 hw (lv_sub hl [2, 1, 0] rfl)
      replace h := h9
      refine lv_if_ne (tgt := 65) hx hb dX7_fails_58 (by decide) (fun c28 => ?_) (fun c28 => ?_)
      · replace h := it_f c28 h
        refine lv_iconst (v := 0) hx hb dX7_fails_65 (by decide) ?_
        have e9 := Option.some.inj h
        subst e9
        exact hJ30 _ rfl (Or.inl rfl) H locs ls hw (lv_sub hl [0] rfl)
      · replace h := it_t c28 h
        refine lv_iconst (v := 1) hx hb dX7_fails_61 (by decide) ?_
        refine lv_goto (tgt := 66) hx hb dX7_fails_62 (by decide) ?_
        have e9 := Option.some.inj h
        subst e9
        exact hJ30 _ rfl (Or.inr rfl) H locs ls hw (lv_sub hl [0] rfl)
    have hL14 : ∀ (n9 : Nat) (σ12 : vSt), ∀ (H : Heap) (locs : List Loc) (ls : Array Slot), f_X7_fails_39  n9 σ12 = some φ16 → PW K 12 ad (cM K ad) A s.heap σ12 H locs → lv_has ls 5 [(0, .ref (ad 0))] → W p l e (rmF 8 161) s m args below meth c H locs 0 0 Q (F0 m 39 ls []) := by
      intro n9
      induction n9 with
      | zero => intro σ12 H locs ls h hw hl; rw [f_X7_fails_39.eq_1] at h; exact it_n h
      | succ n9 ih =>
        intro σ12 H locs ls h hw hl
        rw [f_X7_fails_39.eq_2] at h
        refine lv_aload_n hx hb dX7_fails_39 rfl (lv_at hl 0 rfl) ?_
        refine lv_iconst (v := 5) hx hb dX7_fails_40 (by decide) ?_
        obtain ⟨⟨v17, σ18⟩, k19, h⟩ := it_b h
        refine kV_z (As := [.int (5 : Int32)]) (rest := []) (q := 0) hx_E hw (c_X7_findsPlain l K ad hI  (5 : Int32) σ12 k19) mi_X7_findsPlain mv_X7_findsPlain ml_X7_149 (by decide) rfl rfl rfl ⟨⟨Nat.le_of_ble_eq_true rfl, Nat.le_of_ble_eq_true rfl⟩, rfl, rfl⟩ ⟨Nat.zero_le _, Nat.zero_le _⟩ hl.1 rfl (Nat.le_of_ble_eq_true rfl) dX7_fails_41 (fun z20 H locs hw => ?_)
        refine lv_if_eq (tgt := 54) hx hb dX7_fails_44 (by decide) (fun c21 => ?_) (fun c21 => ?_)
        · replace h := it_t c21 h
          have e9 := Option.some.inj h
          subst e9
          exact hJ15 _ rfl  H locs ls hw (lv_sub hl [0] rfl)
        · replace h := it_f c21 h
          refine lv_aload_n hx hb dX7_fails_47 rfl (lv_at hl 0 rfl) ?_
          obtain ⟨σ22, k23, h⟩ := it_b h
          refine kV_v (As := []) (rest := []) (q := 0) hx_E hw (c_X7_makes l K ad hI   σ18 k23) mi_X7_makes mv_X7_makes ml_X7_152 (by decide) rfl rfl rfl ⟨⟨Nat.le_of_ble_eq_true rfl, Nat.le_of_ble_eq_true rfl⟩, rfl, rfl⟩ ⟨Nat.zero_le _, Nat.zero_le _⟩ hl.1 rfl (Nat.le_of_ble_eq_true rfl) dX7_fails_48 (fun H locs hw => ?_)
          refine lv_goto (tgt := 39) hx hb dX7_fails_51 (by decide) ?_
          exact ih  _  H locs ls h hw (lv_sub hl [0] rfl)
    exact hL14 600 _  H locs ls h9 hw (lv_sub hl [0] rfl)
  have hL4 : ∀ (n9 : Nat) (v1 : Int32) (σ2 : vSt), ∀ (H : Heap) (locs : List Loc) (ls : Array Slot), f_X7_fails_2  n9 v1 σ2 = some φ6 → PW K 12 ad (cM K ad) A s.heap σ2 H locs → lv_has ls 5 [(0, .ref (ad 0)), (1, .int l1), (2, .int l2), (3, .int v1)] → W p l e (rmF 8 161) s m args below meth c H locs 0 0 Q (F0 m 2 ls []) := by
    intro n9
    induction n9 with
    | zero => intro v1 σ2 H locs ls h hw hl; rw [f_X7_fails_2.eq_1] at h; exact it_n h
    | succ n9 ih =>
      intro v1 σ2 H locs ls h hw hl
      rw [f_X7_fails_2.eq_2] at h
      refine lv_iload_n hx hb dX7_fails_2 rfl (lv_at hl 3 rfl) ?_
      refine lv_bipush (v := 40) hx hb dX7_fails_3 (by decide) ?_
      refine lv_icmp_ge (tgt := 29) hx hb dX7_fails_5 (by decide) (fun c7 => ?_) (fun c7 => ?_)
      · replace h := it_t c7 h
        have e9 := Option.some.inj h
        subst e9
        exact hJ5 _ rfl  H locs ls hw (lv_sub hl [0, 1, 2] rfl)
      · replace h := it_f c7 h
        refine lv_aload_n hx hb dX7_fails_8 rfl (lv_at hl 0 rfl) ?_
        refine gM_0_17 hx_E hw fl_X7_29 dX7_fails_9 ?_
        refine lv_iload_n hx hb dX7_fails_12 rfl (lv_at hl 3 rfl) ?_
        refine lv_aload_n hx hb dX7_fails_13 rfl (lv_at hl 0 rfl) ?_
        refine gM_0_0 hx_E hw fl_X7_7 dX7_fails_14 ?_
        refine lv_bipush (v := 18) hx hb dX7_fails_17 (by decide) ?_
        refine lv_iload_n hx hb dX7_fails_19 rfl (lv_at hl 3 rfl) ?_
        refine lv_iadd hx hb dX7_fails_20 ?_
        obtain ⟨g8, h⟩ := it_g h
        refine aM_1 hx_E hw g8 dX7_fails_21 ?_
        obtain ⟨g9, h⟩ := it_g h
        refine sM_7 hx_E hw g9 dX7_fails_22 (fun H locs hw => ?_)
        refine lv_iinc (v := (v1 + 1)) (lv' := [(3, .int (v1 + 1)), (0, .ref (ad 0)), (1, .int l1), (2, .int l2)]) hx hb dX7_fails_23 hl (k := 3) rfl rfl (by decide) rfl (fun ls hl => ?_)
        refine lv_goto (tgt := 2) hx hb dX7_fails_26 (by decide) ?_
        exact ih _ _  H locs ls h hw (lv_sub hl [1, 2, 3, 0] rfl)
  exact hL4 600 _ _  H locs ls h9 hw (lv_sub hl [1, 2, 3, 0] rfl)
set_option maxHeartbeats 4000000 in
set_option maxRecDepth 100000 in
theorem c_X7_byTrials (l : Launch) (K : vK) (ad : Nat → Nat) (hI : adInj 12 ad) (l1 : Int32) (σ : vSt) {r : Int32} {σ' : vSt} (h : f_X7_byTrials l1 σ = some (r, σ')) : MCz l yX7_byTrials (wsY yX7_byTrials cX7_byTrials 3 (some .boolean)) (rmF 9 185) K 12 ad (cM K ad) [.ref (ad 0), .int l1] σ r σ' := by
  refine MCz_of (own := RX7) (plainFor_of_name (by decide)) hI rfl (Nat.le_of_ble_eq_true rfl) ?_
  intro p e s m args below meth c A Q hx_E hE H locs ls hw hl
  have hx := hx_E.1; have hb := hx_E.2.1; have hown := hx_E.2.2.2.1; have hts := hx_E.2.2.2.2.1
  replace hl : lv_has ls 3 [(0, .ref (ad 0)), (1, .int l1)] := hl
  unfold f_X7_byTrials at h
  refine lv_iconst (v := 0) hx hb dX7_byTrials_0 (by decide) ?_
  refine lv_istore_n (lv' := [(2, .int (0 : Int32)), (0, .ref (ad 0)), (1, .int l1)]) hx hb dX7_byTrials_1 rfl hl (by decide) rfl (fun ls hl => ?_)
  obtain ⟨φ6, h9, h_φ6⟩ := it_b h
  have hJ5 : ∀ (σ3 : vSt), .inr σ3 = φ6 → ∀ (H : Heap) (locs : List Loc) (ls : Array Slot), PW K 12 ad (cM K ad) A s.heap σ3 H locs → lv_has ls 3 [] → W p l e (rmF 9 185) s m args below meth c H locs 0 0 Q (F0 m 62 ls []) := by
    intro σ3 e9 H locs ls hw hl
    subst e9
    replace h := h_φ6
    refine lv_iconst (v := 0) hx hb dX7_byTrials_62 (by decide) ?_
    exact hE hw (congrArg Prod.fst (Option.some.inj h)) (congrArg Prod.snd (Option.some.inj h)) (Or.inl rfl) dX7_byTrials_63
  have hL4 : ∀ (n9 : Nat) (v1 : Int32) (σ2 : vSt), ∀ (H : Heap) (locs : List Loc) (ls : Array Slot), f_X7_byTrials_2 l1 n9 v1 σ2 = some φ6 → PW K 12 ad (cM K ad) A s.heap σ2 H locs → lv_has ls 3 [(0, .ref (ad 0)), (1, .int l1), (2, .int v1)] → W p l e (rmF 9 185) s m args below meth c H locs 0 0 Q (F0 m 2 ls []) := by
    intro n9
    induction n9 with
    | zero => intro v1 σ2 H locs ls h hw hl; rw [f_X7_byTrials_2.eq_1] at h; exact it_n h
    | succ n9 ih =>
      intro v1 σ2 H locs ls h hw hl
      rw [f_X7_byTrials_2.eq_2] at h
      refine lv_iload_n hx hb dX7_byTrials_2 rfl (lv_at hl 2 rfl) ?_
      refine lv_aload_n hx hb dX7_byTrials_3 rfl (lv_at hl 0 rfl) ?_
      obtain ⟨v7, k8, h⟩ := it_b h
      refine kV_i (As := []) (rest := [.int v1]) (q := 0) hx_E hw (c_X7_edges l K ad hI   σ2 k8) mi_X7_edges mv_X7_edges ml_X7_69 (by decide) rfl rfl rfl ⟨⟨Nat.le_of_ble_eq_true rfl, Nat.le_of_ble_eq_true rfl⟩, rfl, rfl⟩ ⟨Nat.zero_le _, Nat.zero_le _⟩ hl.1 rfl (Nat.le_of_ble_eq_true rfl) dX7_byTrials_4 (fun H locs hw => ?_)
      refine lv_icmp_ge (tgt := 62) hx hb dX7_byTrials_7 (by decide) (fun c9 => ?_) (fun c9 => ?_)
      · replace h := it_t c9 h
        have e9 := Option.some.inj h
        subst e9
        exact hJ5 _ rfl  H locs ls hw (lv_sub hl [] rfl)
      · replace h := it_f c9 h
        refine lv_aload_n hx hb dX7_byTrials_10 rfl (lv_at hl 0 rfl) ?_
        refine lv_iload_n hx hb dX7_byTrials_11 rfl (lv_at hl 2 rfl) ?_
        obtain ⟨v10, k11, h⟩ := it_b h
        refine kV_i (As := [.int v1]) (rest := []) (q := 0) hx_E hw (c_X7_markOf l K ad hI  v1 σ2 k11) mi_X7_markOf mv_X7_markOf ml_X7_56 (by decide) rfl rfl rfl ⟨⟨Nat.le_of_ble_eq_true rfl, Nat.le_of_ble_eq_true rfl⟩, rfl, rfl⟩ ⟨Nat.zero_le _, Nat.zero_le _⟩ hl.1 rfl (Nat.le_of_ble_eq_true rfl) dX7_byTrials_12 (fun H locs hw => ?_)
        refine lv_if_ne (tgt := 56) hx hb dX7_byTrials_15 (by decide) (fun c12 => ?_) (fun c12 => ?_)
        · replace h := it_f c12 h
          refine lv_iinc (v := (v1 + 1)) (lv' := [(2, .int (v1 + 1)), (0, .ref (ad 0)), (1, .int l1)]) hx hb dX7_byTrials_56 hl (k := 2) rfl rfl (by decide) rfl (fun ls hl => ?_)
          refine lv_goto (tgt := 2) hx hb dX7_byTrials_59 (by decide) ?_
          exact ih _ _  H locs ls h hw (lv_sub hl [1, 2, 0] rfl)
        · replace h := it_t c12 h
          refine lv_aload_n hx hb dX7_byTrials_18 rfl (lv_at hl 0 rfl) ?_
          refine lv_iload_n hx hb dX7_byTrials_19 rfl (lv_at hl 2 rfl) ?_
          refine lv_iload_n hx hb dX7_byTrials_20 rfl (lv_at hl 1 rfl) ?_
          refine lv_bipush (v := 6) hx hb dX7_byTrials_21 (by decide) ?_
          obtain ⟨φ16, h9, h_φ16⟩ := it_b h
          have hJ15 : ∀ (v14 : Int32), v14 = φ16 → ∀ (H : Heap) (locs : List Loc) (ls : Array Slot), PW K 12 ad (cM K ad) A s.heap σ2 H locs → lv_has ls 3 [(0, .ref (ad 0)), (1, .int l1), (2, .int v1)] → W p l e (rmF 9 185) s m args below meth c H locs 0 0 Q (F0 m 31 ls [.int v14, .int v1, .ref (ad 0)]) := by
            intro v14 e9 H locs ls hw hl
            subst e9
            replace h := h_φ16
            obtain ⟨⟨v17, σ18⟩, k19, h⟩ := it_b h
            refine kV_z (As := [.int v1, .int v14]) (rest := []) (q := 0) hx_E hw (c_X7_fails l K ad hI  v1 v14 σ2 k19) mi_X7_fails mv_X7_fails ml_X7_155 (by decide) rfl rfl rfl ⟨⟨Nat.le_of_ble_eq_true rfl, Nat.le_of_ble_eq_true rfl⟩, rfl, rfl⟩ ⟨Nat.zero_le _, Nat.zero_le _⟩ hl.1 rfl (Nat.le_of_ble_eq_true rfl) dX7_byTrials_31 (fun z20 H locs hw => ?_)
            refine lv_if_eq (tgt := 56) hx hb dX7_byTrials_34 (by decide) (fun c21 => ?_) (fun c21 => ?_)
            · replace h := it_t c21 h
              refine lv_iinc (v := (v1 + 1)) (lv' := [(2, .int (v1 + 1)), (0, .ref (ad 0)), (1, .int l1)]) hx hb dX7_byTrials_56 hl (k := 2) rfl rfl (by decide) rfl (fun ls hl => ?_)
              refine lv_goto (tgt := 2) hx hb dX7_byTrials_59 (by decide) ?_
              exact ih _ _  H locs ls h hw (lv_sub hl [1, 2, 0] rfl)
            · replace h := it_f c21 h
              refine lv_aload_n hx hb dX7_byTrials_37 rfl (lv_at hl 0 rfl) ?_
              refine lv_iload_n hx hb dX7_byTrials_38 rfl (lv_at hl 1 rfl) ?_
              refine lv_iload_n hx hb dX7_byTrials_39 rfl (lv_at hl 2 rfl) ?_
              refine lv_iload_n hx hb dX7_byTrials_40 rfl (lv_at hl 1 rfl) ?_
              refine lv_bipush (v := 6) hx hb dX7_byTrials_41 (by decide) ?_
              obtain ⟨φ25, h9, h_φ25⟩ := it_b h
              have hJ24 : ∀ (v23 : Int32), v23 = φ25 → ∀ (H : Heap) (locs : List Loc) (ls : Array Slot), PW K 12 ad (cM K ad) A s.heap σ18 H locs → lv_has ls 3 [] → W p l e (rmF 9 185) s m args below meth c H locs 0 0 Q (F0 m 51 ls [.int v23, .int v1, .int l1, .ref (ad 0)]) := by
                intro v23 e9 H locs ls hw hl
                subst e9
                replace h := h_φ25
                refine lv_iconst (v := -1) hx hb dX7_byTrials_51 (by decide) ?_
                obtain ⟨⟨v26, σ27⟩, k28, h⟩ := it_b h
                refine kV_z (As := [.int l1, .int v1, .int v23, .int (-1 : Int32)]) (rest := []) (q := 0) hx_E hw (c_X7_finds l K ad hI  l1 v1 v23 (-1 : Int32) σ18 k28) mi_X7_finds mv_X7_finds ml_X7_130 (by decide) rfl rfl rfl ⟨⟨Nat.le_of_ble_eq_true rfl, Nat.le_of_ble_eq_true rfl⟩, rfl, rfl⟩ ⟨Nat.zero_le _, Nat.zero_le _⟩ hl.1 rfl (Nat.le_of_ble_eq_true rfl) dX7_byTrials_52 (fun z29 H locs hw => ?_)
                have e9 := Option.some.inj h
                subst e9
                replace h := h_φ6
                exact hE hw (congrArg Prod.fst (Option.some.inj h)) (congrArg Prod.snd (Option.some.inj h)) z29 dX7_byTrials_55
              replace h := h9
              refine lv_icmp_ne (tgt := 50) hx hb dX7_byTrials_43 (by decide) (fun c22 => ?_) (fun c22 => ?_)
              · replace h := it_f c22 h
                refine lv_iconst (v := 1) hx hb dX7_byTrials_50 (by decide) ?_
                have e9 := Option.some.inj h
                subst e9
                exact hJ24 _ rfl  H locs ls hw (lv_sub hl [] rfl)
              · replace h := it_t c22 h
                refine lv_iconst (v := 2) hx hb dX7_byTrials_46 (by decide) ?_
                refine lv_goto (tgt := 51) hx hb dX7_byTrials_47 (by decide) ?_
                have e9 := Option.some.inj h
                subst e9
                exact hJ24 _ rfl  H locs ls hw (lv_sub hl [] rfl)
          replace h := h9
          refine lv_icmp_ne (tgt := 30) hx hb dX7_byTrials_23 (by decide) (fun c13 => ?_) (fun c13 => ?_)
          · replace h := it_f c13 h
            refine lv_iconst (v := 2) hx hb dX7_byTrials_30 (by decide) ?_
            have e9 := Option.some.inj h
            subst e9
            exact hJ15 _ rfl  H locs ls hw (lv_sub hl [0, 1, 2] rfl)
          · replace h := it_t c13 h
            refine lv_iconst (v := 1) hx hb dX7_byTrials_26 (by decide) ?_
            refine lv_goto (tgt := 31) hx hb dX7_byTrials_27 (by decide) ?_
            have e9 := Option.some.inj h
            subst e9
            exact hJ15 _ rfl  H locs ls hw (lv_sub hl [0, 1, 2] rfl)
  exact hL4 600 _ _  H locs ls h9 hw (lv_sub hl [1, 2, 0] rfl)
set_option maxHeartbeats 4000000 in
set_option maxRecDepth 100000 in
theorem c_X7_findsNext (l : Launch) (K : vK) (ad : Nat → Nat) (hI : adInj 12 ad) (l1 : Int32) (σ : vSt) {r : Int32} {σ' : vSt} (h : f_X7_findsNext l1 σ = some (r, σ')) : MCz l yX7_findsNext (wsY yX7_findsNext cX7_findsNext 2 (some .boolean)) (rmF 10 207) K 12 ad (cM K ad) [.ref (ad 0), .int l1] σ r σ' := by
  refine MCz_of (own := RX7) (plainFor_of_name (by decide)) hI rfl (Nat.le_of_ble_eq_true rfl) ?_
  intro p e s m args below meth c A Q hx_E hE H locs ls hw hl
  have hx := hx_E.1; have hb := hx_E.2.1; have hown := hx_E.2.2.2.1; have hts := hx_E.2.2.2.2.1
  replace hl : lv_has ls 2 [(0, .ref (ad 0)), (1, .int l1)] := hl
  unfold f_X7_findsNext at h
  refine lv_aload_n hx hb dX7_findsNext_0 rfl (lv_at hl 0 rfl) ?_
  refine lv_iload_n hx hb dX7_findsNext_1 rfl (lv_at hl 1 rfl) ?_
  obtain ⟨⟨v1, σ2⟩, k3, h⟩ := it_b h
  refine kV_z (As := [.int l1]) (rest := []) (q := 0) hx_E hw (c_X7_findsPlain l K ad hI  l1 σ k3) mi_X7_findsPlain mv_X7_findsPlain ml_X7_149 (by decide) rfl rfl rfl ⟨⟨Nat.le_of_ble_eq_true rfl, Nat.le_of_ble_eq_true rfl⟩, rfl, rfl⟩ ⟨Nat.zero_le _, Nat.zero_le _⟩ hl.1 rfl (Nat.le_of_ble_eq_true rfl) dX7_findsNext_2 (fun z4 H locs hw => ?_)
  refine lv_if_eq (tgt := 10) hx hb dX7_findsNext_5 (by decide) (fun c5 => ?_) (fun c5 => ?_)
  · replace h := it_t c5 h
    refine lv_iload_n hx hb dX7_findsNext_10 rfl (lv_at hl 1 rfl) ?_
    refine lv_bipush (v := 6) hx hb dX7_findsNext_11 (by decide) ?_
    refine lv_icmp_lt (tgt := 30) hx hb dX7_findsNext_13 (by decide) (fun c6 => ?_) (fun c6 => ?_)
    · replace h := it_t c6 h
      refine lv_iconst (v := 0) hx hb dX7_findsNext_30 (by decide) ?_
      exact hE hw (congrArg Prod.fst (Option.some.inj h)) (congrArg Prod.snd (Option.some.inj h)) (Or.inl rfl) dX7_findsNext_31
    · replace h := it_f c6 h
      refine lv_aload_n hx hb dX7_findsNext_16 rfl (lv_at hl 0 rfl) ?_
      obtain ⟨⟨v7, σ8⟩, k9, h⟩ := it_b h
      refine kV_z (As := []) (rest := []) (q := 0) hx_E hw (c_X7_fits l K ad hI   σ2 k9) mi_X7_fits mv_X7_fits ml_X7_137 (by decide) rfl rfl rfl ⟨⟨Nat.le_of_ble_eq_true rfl, Nat.le_of_ble_eq_true rfl⟩, rfl, rfl⟩ ⟨Nat.zero_le _, Nat.zero_le _⟩ hl.1 rfl (Nat.le_of_ble_eq_true rfl) dX7_findsNext_17 (fun z10 H locs hw => ?_)
      refine lv_if_eq (tgt := 30) hx hb dX7_findsNext_20 (by decide) (fun c11 => ?_) (fun c11 => ?_)
      · replace h := it_t c11 h
        refine lv_iconst (v := 0) hx hb dX7_findsNext_30 (by decide) ?_
        exact hE hw (congrArg Prod.fst (Option.some.inj h)) (congrArg Prod.snd (Option.some.inj h)) (Or.inl rfl) dX7_findsNext_31
      · replace h := it_f c11 h
        refine lv_aload_n hx hb dX7_findsNext_23 rfl (lv_at hl 0 rfl) ?_
        refine gM_0_12 hx_E hw fl_X7_97 dX7_findsNext_24 ?_
        refine lv_if_eq (tgt := 32) hx hb dX7_findsNext_27 (by decide) (fun c12 => ?_) (fun c12 => ?_)
        · replace h := it_t c12 h
          refine lv_aload_n hx hb dX7_findsNext_32 rfl (lv_at hl 0 rfl) ?_
          refine lv_bipush (v := 6) hx hb dX7_findsNext_33 (by decide) ?_
          obtain ⟨⟨v13, σ14⟩, k15, h⟩ := it_b h
          refine kV_z (As := [.int (6 : Int32)]) (rest := []) (q := 0) hx_E hw (c_X7_byTrials l K ad hI  (6 : Int32) σ8 k15) mi_X7_byTrials mv_X7_byTrials ml_X7_159 (by decide) rfl rfl rfl ⟨⟨Nat.le_of_ble_eq_true rfl, Nat.le_of_ble_eq_true rfl⟩, rfl, rfl⟩ ⟨Nat.zero_le _, Nat.zero_le _⟩ hl.1 rfl (Nat.le_of_ble_eq_true rfl) dX7_findsNext_35 (fun z16 H locs hw => ?_)
          refine lv_if_ne (tgt := 56) hx hb dX7_findsNext_38 (by decide) (fun c17 => ?_) (fun c17 => ?_)
          · replace h := it_f c17 h
            refine lv_iconst (v := 1) hx hb dX7_findsNext_56 (by decide) ?_
            refine lv_goto (tgt := 61) hx hb dX7_findsNext_57 (by decide) ?_
            exact hE hw (congrArg Prod.fst (Option.some.inj h)) (congrArg Prod.snd (Option.some.inj h)) (Or.inr rfl) dX7_findsNext_61
          · replace h := it_t c17 h
            refine lv_iload_n hx hb dX7_findsNext_41 rfl (lv_at hl 1 rfl) ?_
            refine lv_bipush (v := 7) hx hb dX7_findsNext_42 (by decide) ?_
            refine lv_icmp_ne (tgt := 60) hx hb dX7_findsNext_44 (by decide) (fun c18 => ?_) (fun c18 => ?_)
            · replace h := it_f c18 h
              refine lv_iconst (v := 0) hx hb dX7_findsNext_60 (by decide) ?_
              exact hE hw (congrArg Prod.fst (Option.some.inj h)) (congrArg Prod.snd (Option.some.inj h)) (Or.inl rfl) dX7_findsNext_61
            · replace h := it_t c18 h
              refine lv_aload_n hx hb dX7_findsNext_47 rfl (lv_at hl 0 rfl) ?_
              refine lv_bipush (v := 7) hx hb dX7_findsNext_48 (by decide) ?_
              obtain ⟨⟨v19, σ20⟩, k21, h⟩ := it_b h
              refine kV_z (As := [.int (7 : Int32)]) (rest := []) (q := 0) hx_E hw (c_X7_byTrials l K ad hI  (7 : Int32) σ14 k21) mi_X7_byTrials mv_X7_byTrials ml_X7_159 (by decide) rfl rfl rfl ⟨⟨Nat.le_of_ble_eq_true rfl, Nat.le_of_ble_eq_true rfl⟩, rfl, rfl⟩ ⟨Nat.zero_le _, Nat.zero_le _⟩ hl.1 rfl (Nat.le_of_ble_eq_true rfl) dX7_findsNext_50 (fun z22 H locs hw => ?_)
              refine lv_if_eq (tgt := 60) hx hb dX7_findsNext_53 (by decide) (fun c23 => ?_) (fun c23 => ?_)
              · replace h := it_t c23 h
                refine lv_iconst (v := 0) hx hb dX7_findsNext_60 (by decide) ?_
                exact hE hw (congrArg Prod.fst (Option.some.inj h)) (congrArg Prod.snd (Option.some.inj h)) (Or.inl rfl) dX7_findsNext_61
              · replace h := it_f c23 h
                refine lv_iconst (v := 1) hx hb dX7_findsNext_56 (by decide) ?_
                refine lv_goto (tgt := 61) hx hb dX7_findsNext_57 (by decide) ?_
                exact hE hw (congrArg Prod.fst (Option.some.inj h)) (congrArg Prod.snd (Option.some.inj h)) (Or.inr rfl) dX7_findsNext_61
        · replace h := it_f c12 h
          refine lv_iconst (v := 0) hx hb dX7_findsNext_30 (by decide) ?_
          exact hE hw (congrArg Prod.fst (Option.some.inj h)) (congrArg Prod.snd (Option.some.inj h)) (Or.inl rfl) dX7_findsNext_31
  · replace h := it_f c5 h
    refine lv_iconst (v := 1) hx hb dX7_findsNext_8 (by decide) ?_
    exact hE hw (congrArg Prod.fst (Option.some.inj h)) (congrArg Prod.snd (Option.some.inj h)) (Or.inr rfl) dX7_findsNext_9
set_option maxHeartbeats 4000000 in
set_option maxRecDepth 100000 in
theorem c_X7_type (l : Launch) (K : vK) (ad : Nat → Nat) (hI : adInj 12 ad) (l1 : Int32) (σ : vSt) {r : Int32} {σ' : vSt} (h : f_X7_type l1 σ = some (r, σ')) : MCi l yX7_type (wsY yX7_type cX7_type 2 (some .int)) (rmF 2 22) K 12 ad (cM K ad) [.ref (ad 0), .int l1] σ r σ' := by
  refine MCi_of (own := RX7) (plainFor_of_name (by decide)) hI rfl (Nat.le_of_ble_eq_true rfl) ?_
  intro p e s m args below meth c A Q hx_E hE H locs ls hw hl
  have hx := hx_E.1; have hb := hx_E.2.1; have hown := hx_E.2.2.2.1; have hts := hx_E.2.2.2.2.1
  replace hl : lv_has ls 2 [(0, .ref (ad 0)), (1, .int l1)] := hl
  unfold f_X7_type at h
  refine lv_iload_n hx hb dX7_type_0 rfl (lv_at hl 1 rfl) ?_
  refine lv_iconst (v := 0) hx hb dX7_type_1 (by decide) ?_
  refine lv_bipush (v := 127) hx hb dX7_type_2 (by decide) ?_
  obtain ⟨v1, k2, h⟩ := it_b h
  refine kS_z (As := [.int l1, .int (0 : Int32), .int (127 : Int32)]) (rest := []) hx_E hw (c_X7_in l K l1 (0 : Int32) (127 : Int32) k2) mi_X7_in sm_X7_in ml_X7_162 rfl ⟨⟨Nat.le_of_ble_eq_true rfl, Nat.le_of_ble_eq_true rfl⟩, rfl, rfl⟩ ⟨Nat.zero_le _, Nat.zero_le _⟩ hl.1 rfl (Nat.le_of_ble_eq_true rfl) dX7_type_4 (fun z3 H locs hw => ?_)
  refine lv_if_ne (tgt := 13) hx hb dX7_type_7 (by decide) (fun c4 => ?_) (fun c4 => ?_)
  · replace h := it_f c4 h
    refine lv_aload_n hx hb dX7_type_13 rfl (lv_at hl 0 rfl) ?_
    refine gM_0_4 hx_E hw fl_X7_166 dX7_type_14 ?_
    refine lv_bipush (v := 40) hx hb dX7_type_17 (by decide) ?_
    refine lv_icmp_ne (tgt := 25) hx hb dX7_type_19 (by decide) (fun c5 => ?_) (fun c5 => ?_)
    · replace h := it_f c5 h
      refine lv_aload_n hx hb dX7_type_25 rfl (lv_at hl 0 rfl) ?_
      refine gM_0_3 hx_E hw fl_X7_16 dX7_type_26 ?_
      refine lv_aload_n hx hb dX7_type_29 rfl (lv_at hl 0 rfl) ?_
      refine gM_0_4 hx_E hw fl_X7_166 dX7_type_30 ?_
      refine lv_iload_n hx hb dX7_type_33 rfl (lv_at hl 1 rfl) ?_
      obtain ⟨g6, h⟩ := it_g h
      refine sM_3 hx_E hw g6 dX7_type_34 (fun H locs hw => ?_)
      refine lv_aload_n hx hb dX7_type_35 rfl (lv_at hl 0 rfl) ?_
      refine lv_dup hx hb dX7_type_36 rfl ?_
      refine gM_0_4 hx_E hw fl_X7_166 dX7_type_37 ?_
      refine lv_iconst (v := 1) hx hb dX7_type_40 (by decide) ?_
      refine lv_iadd hx hb dX7_type_41 ?_
      refine pM_0_4 hx_E hw fl_X7_166 dX7_type_42 (fun H locs hw => ?_)
      refine lv_aload_n hx hb dX7_type_45 rfl (lv_at hl 0 rfl) ?_
      refine gM_0_4 hx_E hw fl_X7_166 dX7_type_46 ?_
      exact hE hw (congrArg Prod.fst (Option.some.inj h)) (congrArg Prod.snd (Option.some.inj h)) dX7_type_49
    · replace h := it_t c5 h
      refine lv_bipush (v := -4) hx hb dX7_type_22 (by decide) ?_
      exact hE hw (congrArg Prod.fst (Option.some.inj h)) (congrArg Prod.snd (Option.some.inj h)) dX7_type_24
  · replace h := it_t c4 h
    refine lv_bipush (v := -2) hx hb dX7_type_10 (by decide) ?_
    exact hE hw (congrArg Prod.fst (Option.some.inj h)) (congrArg Prod.snd (Option.some.inj h)) dX7_type_12
set_option maxHeartbeats 4000000 in
set_option maxRecDepth 100000 in
theorem c_X7_clearText (l : Launch) (K : vK) (ad : Nat → Nat) (hI : adInj 12 ad) (σ : vSt) {r : Int32} {σ' : vSt} (h : f_X7_clearText σ = some (r, σ')) : MCi l yX7_clearText (wsY yX7_clearText cX7_clearText 2 (some .int)) (rmF 1 0) K 12 ad (cM K ad) [.ref (ad 0)] σ r σ' := by
  refine MCi_of (own := RX7) (plainFor_of_name (by decide)) hI rfl (Nat.le_of_ble_eq_true rfl) ?_
  intro p e s m args below meth c A Q hx_E hE H locs ls hw hl
  have hx := hx_E.1; have hb := hx_E.2.1; have hown := hx_E.2.2.2.1; have hts := hx_E.2.2.2.2.1
  replace hl : lv_has ls 2 [(0, .ref (ad 0))] := hl
  unfold f_X7_clearText at h
  refine lv_aload_n hx hb dX7_clearText_0 rfl (lv_at hl 0 rfl) ?_
  refine gM_0_4 hx_E hw fl_X7_166 dX7_clearText_1 ?_
  obtain ⟨v1, e_v1, h⟩ := it_b h
  refine lt_topi (Option.some.inj e_v1) ?_
  refine lv_istore_n (lv' := [(1, .int v1), (0, .ref (ad 0))]) hx hb dX7_clearText_4 rfl hl (by decide) rfl (fun ls hl => ?_)
  refine lv_aload_n hx hb dX7_clearText_5 rfl (lv_at hl 1 rfl) ?_
  refine lv_iconst (v := 0) hx hb dX7_clearText_6 (by decide) ?_
  refine pM_0_4 hx_E hw fl_X7_166 dX7_clearText_7 (fun H locs hw => ?_)
  refine lv_iload_n hx hb dX7_clearText_10 rfl (lv_at hl 0 rfl) ?_
  exact hE hw (congrArg Prod.fst (Option.some.inj h)) (congrArg Prod.snd (Option.some.inj h)) dX7_clearText_11
set_option maxHeartbeats 4000000 in
set_option maxRecDepth 100000 in
theorem c_X7_next (l : Launch) (K : vK) (ad : Nat → Nat) (hI : adInj 12 ad) (σ : vSt) {r : Int32} {σ' : vSt} (h : f_X7_next σ = some (r, σ')) : MCi l yX7_next (wsY yX7_next cX7_next 1 (some .int)) (rmF 1 0) K 12 ad (cM K ad) [.ref (ad 0)] σ r σ' := by
  refine MCi_of (own := RX7) (plainFor_of_name (by decide)) hI rfl (Nat.le_of_ble_eq_true rfl) ?_
  intro p e s m args below meth c A Q hx_E hE H locs ls hw hl
  have hx := hx_E.1; have hb := hx_E.2.1; have hown := hx_E.2.2.2.1; have hts := hx_E.2.2.2.2.1
  replace hl : lv_has ls 1 [(0, .ref (ad 0))] := hl
  unfold f_X7_next at h
  obtain ⟨φ5, h9, h_φ5⟩ := it_b h
  have hJ4 : ∀ (σ2 : vSt), σ2 = φ5 → ∀ (H : Heap) (locs : List Loc) (ls : Array Slot), PW K 12 ad (cM K ad) A s.heap σ2 H locs → lv_has ls 1 [(0, .ref (ad 0))] → W p l e (rmF 1 0) s m args below meth c H locs 0 0 Q (F0 m 38 ls []) := by
    intro σ2 e9 H locs ls hw hl
    subst e9
    replace h := h_φ5
    refine lv_aload_n hx hb dX7_next_38 rfl (lv_at hl 0 rfl) ?_
    refine gM_0_21 hx_E hw fl_X7_169 dX7_next_39 ?_
    refine lv_aload_n hx hb dX7_next_42 rfl (lv_at hl 0 rfl) ?_
    refine gM_0_4 hx_E hw fl_X7_166 dX7_next_43 ?_
    refine lv_icmp_ge (tgt := 61) hx hb dX7_next_46 (by decide) (fun c9 => ?_) (fun c9 => ?_)
    · replace h := it_t c9 h
      refine lv_iconst (v := -1) hx hb dX7_next_61 (by decide) ?_
      exact hE hw (congrArg Prod.fst (Option.some.inj h)) (congrArg Prod.snd (Option.some.inj h)) dX7_next_62
    · replace h := it_f c9 h
      refine lv_aload_n hx hb dX7_next_49 rfl (lv_at hl 0 rfl) ?_
      refine gM_0_3 hx_E hw fl_X7_16 dX7_next_50 ?_
      refine lv_aload_n hx hb dX7_next_53 rfl (lv_at hl 0 rfl) ?_
      refine gM_0_21 hx_E hw fl_X7_169 dX7_next_54 ?_
      obtain ⟨g10, h⟩ := it_g h
      refine aM_3 hx_E hw g10 dX7_next_57 ?_
      refine lv_goto (tgt := 62) hx hb dX7_next_58 (by decide) ?_
      exact hE hw (congrArg Prod.fst (Option.some.inj h)) (congrArg Prod.snd (Option.some.inj h)) dX7_next_62
  have hL3 : ∀ (n9 : Nat) (σ1 : vSt), ∀ (H : Heap) (locs : List Loc) (ls : Array Slot), f_X7_next_0  n9 σ1 = some φ5 → PW K 12 ad (cM K ad) A s.heap σ1 H locs → lv_has ls 1 [(0, .ref (ad 0))] → W p l e (rmF 1 0) s m args below meth c H locs 0 0 Q (F0 m 0 ls []) := by
    intro n9
    induction n9 with
    | zero => intro σ1 H locs ls h hw hl; rw [f_X7_next_0.eq_1] at h; exact it_n h
    | succ n9 ih =>
      intro σ1 H locs ls h hw hl
      rw [f_X7_next_0.eq_2] at h
      refine lv_aload_n hx hb dX7_next_0 rfl (lv_at hl 0 rfl) ?_
      refine gM_0_21 hx_E hw fl_X7_169 dX7_next_1 ?_
      refine lv_aload_n hx hb dX7_next_4 rfl (lv_at hl 0 rfl) ?_
      refine gM_0_4 hx_E hw fl_X7_166 dX7_next_5 ?_
      refine lv_icmp_ge (tgt := 38) hx hb dX7_next_8 (by decide) (fun c6 => ?_) (fun c6 => ?_)
      · replace h := it_t c6 h
        have e9 := Option.some.inj h
        subst e9
        exact hJ4 _ rfl  H locs ls hw (lv_sub hl [0] rfl)
      · replace h := it_f c6 h
        refine lv_aload_n hx hb dX7_next_11 rfl (lv_at hl 0 rfl) ?_
        refine gM_0_3 hx_E hw fl_X7_16 dX7_next_12 ?_
        refine lv_aload_n hx hb dX7_next_15 rfl (lv_at hl 0 rfl) ?_
        refine gM_0_21 hx_E hw fl_X7_169 dX7_next_16 ?_
        obtain ⟨g7, h⟩ := it_g h
        refine aM_3 hx_E hw g7 dX7_next_19 ?_
        refine lv_bipush (v := 32) hx hb dX7_next_20 (by decide) ?_
        refine lv_icmp_ne (tgt := 38) hx hb dX7_next_22 (by decide) (fun c8 => ?_) (fun c8 => ?_)
        · replace h := it_f c8 h
          have e9 := Option.some.inj h
          subst e9
          exact hJ4 _ rfl  H locs ls hw (lv_sub hl [0] rfl)
        · replace h := it_t c8 h
          refine lv_aload_n hx hb dX7_next_25 rfl (lv_at hl 0 rfl) ?_
          refine lv_dup hx hb dX7_next_26 rfl ?_
          refine gM_0_21 hx_E hw fl_X7_169 dX7_next_27 ?_
          refine lv_iconst (v := 1) hx hb dX7_next_30 (by decide) ?_
          refine lv_iadd hx hb dX7_next_31 ?_
          refine pM_0_21 hx_E hw fl_X7_169 dX7_next_32 (fun H locs hw => ?_)
          refine lv_goto (tgt := 0) hx hb dX7_next_35 (by decide) ?_
          exact ih  _  H locs ls h hw (lv_sub hl [0] rfl)
  exact hL3 600 _  H locs ls h9 hw (lv_sub hl [0] rfl)
set_option maxHeartbeats 4000000 in
set_option maxRecDepth 100000 in
theorem c_X7_readsRow (l : Launch) (K : vK) (ad : Nat → Nat) (hI : adInj 12 ad) (l1 : Int32) (l2 : Int32) (σ : vSt) {r : Int32} {σ' : vSt} (h : f_X7_readsRow l1 l2 σ = some (r, σ')) : MCz l yX7_readsRow (wsY yX7_readsRow cX7_readsRow 4 (some .boolean)) (rmF 2 22) K 12 ad (cM K ad) [.ref (ad 0), .int l1, .int l2] σ r σ' := by
  refine MCz_of (own := RX7) (plainFor_of_name (by decide)) hI rfl (Nat.le_of_ble_eq_true rfl) ?_
  intro p e s m args below meth c A Q hx_E hE H locs ls hw hl
  have hx := hx_E.1; have hb := hx_E.2.1; have hown := hx_E.2.2.2.1; have hts := hx_E.2.2.2.2.1
  replace hl : lv_has ls 4 [(0, .ref (ad 0)), (1, .int l1), (2, .int l2)] := hl
  unfold f_X7_readsRow at h
  refine lv_iconst (v := 0) hx hb dX7_readsRow_0 (by decide) ?_
  refine lv_istore_n (lv' := [(3, .int (0 : Int32)), (0, .ref (ad 0)), (1, .int l1), (2, .int l2)]) hx hb dX7_readsRow_1 rfl hl (by decide) rfl (fun ls hl => ?_)
  obtain ⟨φ7, h9, h_φ7⟩ := it_b h
  have hJ6 : ∀ (v3 : Int32) (σ4 : vSt), (v3, σ4) = φ7 → ∀ (H : Heap) (locs : List Loc) (ls : Array Slot), PW K 12 ad (cM K ad) A s.heap σ4 H locs → lv_has ls 4 [(0, .ref (ad 0)), (1, .int l1), (3, .int v3)] → W p l e (rmF 2 22) s m args below meth c H locs 0 0 Q (F0 m 79 ls []) := by
    intro v3 σ4 e9 H locs ls hw hl
    subst e9
    replace h := h_φ7
    refine lv_aload_n hx hb dX7_readsRow_79 rfl (lv_at hl 0 rfl) ?_
    refine lv_iload_n hx hb dX7_readsRow_80 rfl (lv_at hl 2 rfl) ?_
    refine pM_0_19 hx_E hw fl_X7_178 dX7_readsRow_81 (fun H locs hw => ?_)
    refine lv_aload_n hx hb dX7_readsRow_84 rfl (lv_at hl 0 rfl) ?_
    refine lv_dup hx hb dX7_readsRow_85 rfl ?_
    refine gM_0_20 hx_E hw fl_X7_175 dX7_readsRow_86 ?_
    refine lv_iconst (v := 1) hx hb dX7_readsRow_89 (by decide) ?_
    refine lv_iadd hx hb dX7_readsRow_90 ?_
    refine pM_0_20 hx_E hw fl_X7_175 dX7_readsRow_91 (fun H locs hw => ?_)
    refine lv_iload_n hx hb dX7_readsRow_94 rfl (lv_at hl 2 rfl) ?_
    refine lv_iload_n hx hb dX7_readsRow_95 rfl (lv_at hl 1 rfl) ?_
    refine lv_icmp_lt (tgt := 103) hx hb dX7_readsRow_96 (by decide) (fun c44 => ?_) (fun c44 => ?_)
    · replace h := it_t c44 h
      refine lv_iconst (v := 0) hx hb dX7_readsRow_103 (by decide) ?_
      exact hE hw (congrArg Prod.fst (Option.some.inj h)) (congrArg Prod.snd (Option.some.inj h)) (Or.inl rfl) dX7_readsRow_104
    · replace h := it_f c44 h
      refine lv_iconst (v := 1) hx hb dX7_readsRow_99 (by decide) ?_
      refine lv_goto (tgt := 104) hx hb dX7_readsRow_100 (by decide) ?_
      exact hE hw (congrArg Prod.fst (Option.some.inj h)) (congrArg Prod.snd (Option.some.inj h)) (Or.inr rfl) dX7_readsRow_104
  have hL5 : ∀ (n9 : Nat) (v1 : Int32) (σ2 : vSt), ∀ (H : Heap) (locs : List Loc) (ls : Array Slot), f_X7_readsRow_2 l2 n9 v1 σ2 = some φ7 → PW K 12 ad (cM K ad) A s.heap σ2 H locs → lv_has ls 4 [(0, .ref (ad 0)), (1, .int l1), (2, .int l2), (3, .int v1)] → W p l e (rmF 2 22) s m args below meth c H locs 0 0 Q (F0 m 2 ls []) := by
    intro n9
    induction n9 with
    | zero => intro v1 σ2 H locs ls h hw hl; rw [f_X7_readsRow_2.eq_1] at h; exact it_n h
    | succ n9 ih =>
      intro v1 σ2 H locs ls h hw hl
      rw [f_X7_readsRow_2.eq_2] at h
      refine lv_iload_n hx hb dX7_readsRow_2 rfl (lv_at hl 3 rfl) ?_
      refine lv_iload_n hx hb dX7_readsRow_3 rfl (lv_at hl 2 rfl) ?_
      refine lv_icmp_ge (tgt := 79) hx hb dX7_readsRow_4 (by decide) (fun c8 => ?_) (fun c8 => ?_)
      · replace h := it_t c8 h
        have e9 := Option.some.inj h
        subst e9
        exact hJ6 _ _ rfl  H locs ls hw (lv_sub hl [0, 1, 3] rfl)
      · replace h := it_f c8 h
        refine lv_aload_n hx hb dX7_readsRow_7 rfl (lv_at hl 0 rfl) ?_
        obtain ⟨⟨v9, σ10⟩, k11, h⟩ := it_b h
        refine kV_i (As := []) (rest := []) (q := 0) hx_E hw (c_X7_next l K ad hI   σ2 k11) mi_X7_next mv_X7_next ml_X7_172 (by decide) rfl rfl rfl ⟨⟨Nat.le_of_ble_eq_true rfl, Nat.le_of_ble_eq_true rfl⟩, rfl, rfl⟩ ⟨Nat.zero_le _, Nat.zero_le _⟩ hl.1 rfl (Nat.le_of_ble_eq_true rfl) dX7_readsRow_8 (fun H locs hw => ?_)
        refine lv_bipush (v := 48) hx hb dX7_readsRow_11 (by decide) ?_
        refine lv_bipush (v := 51) hx hb dX7_readsRow_13 (by decide) ?_
        obtain ⟨v12, k13, h⟩ := it_b h
        refine kS_z (As := [.int v9, .int (48 : Int32), .int (51 : Int32)]) (rest := []) hx_E hw (c_X7_in l K v9 (48 : Int32) (51 : Int32) k13) mi_X7_in sm_X7_in ml_X7_162 rfl ⟨⟨Nat.le_of_ble_eq_true rfl, Nat.le_of_ble_eq_true rfl⟩, rfl, rfl⟩ ⟨Nat.zero_le _, Nat.zero_le _⟩ hl.1 rfl (Nat.le_of_ble_eq_true rfl) dX7_readsRow_15 (fun z14 H locs hw => ?_)
        refine lv_if_ne (tgt := 30) hx hb dX7_readsRow_18 (by decide) (fun c15 => ?_) (fun c15 => ?_)
        · replace h := it_f c15 h
          refine lv_aload_n hx hb dX7_readsRow_30 rfl (lv_at hl 0 rfl) ?_
          refine gM_0_18 hx_E hw fl_X7_32 dX7_readsRow_31 ?_
          refine lv_aload_n hx hb dX7_readsRow_34 rfl (lv_at hl 0 rfl) ?_
          refine gM_0_20 hx_E hw fl_X7_175 dX7_readsRow_35 ?_
          refine lv_iconst (v := 4) hx hb dX7_readsRow_38 (by decide) ?_
          refine lv_imul hx hb dX7_readsRow_39 ?_
          refine lv_iload_n hx hb dX7_readsRow_40 rfl (lv_at hl 3 rfl) ?_
          refine lv_iadd hx hb dX7_readsRow_41 ?_
          refine lv_aload_n hx hb dX7_readsRow_42 rfl (lv_at hl 0 rfl) ?_
          obtain ⟨⟨v16, σ17⟩, k18, h⟩ := it_b h
          refine kV_i (As := []) (rest := [.int (((gI σ10 0 20) * (4 : Int32)) + v1), .ref (ad 8)]) (q := 0) hx_E hw (c_X7_next l K ad hI   σ10 k18) mi_X7_next mv_X7_next ml_X7_172 (by decide) rfl rfl rfl ⟨⟨Nat.le_of_ble_eq_true rfl, Nat.le_of_ble_eq_true rfl⟩, rfl, rfl⟩ ⟨Nat.zero_le _, Nat.zero_le _⟩ hl.1 rfl (Nat.le_of_ble_eq_true rfl) dX7_readsRow_43 (fun H locs hw => ?_)
          refine lv_bipush (v := 46) hx hb dX7_readsRow_46 (by decide) ?_
          obtain ⟨φ23, h9, h_φ23⟩ := it_b h
          have hJ22 : ∀ (v20 : Int32) (σ21 : vSt), (v20, σ21) = φ23 → ∀ (H : Heap) (locs : List Loc) (ls : Array Slot), PW K 12 ad (cM K ad) A s.heap σ21 H locs → lv_has ls 4 [(0, .ref (ad 0)), (1, .int l1), (2, .int l2), (3, .int v1)] → W p l e (rmF 2 22) s m args below meth c H locs 0 0 Q (F0 m 62 ls [.int v20, .int (((gI σ10 0 20) * (4 : Int32)) + v1), .ref (ad 8)]) := by
            intro v20 σ21 e9 H locs ls hw hl
            subst e9
            replace h := h_φ23
            obtain ⟨g27, h⟩ := it_g h
            refine sM_8 hx_E hw g27 dX7_readsRow_62 (fun H locs hw => ?_)
            refine lv_aload_n hx hb dX7_readsRow_63 rfl (lv_at hl 0 rfl) ?_
            refine lv_dup hx hb dX7_readsRow_64 rfl ?_
            refine gM_0_21 hx_E hw fl_X7_169 dX7_readsRow_65 ?_
            refine lv_iconst (v := 1) hx hb dX7_readsRow_68 (by decide) ?_
            refine lv_iadd hx hb dX7_readsRow_69 ?_
            refine pM_0_21 hx_E hw fl_X7_169 dX7_readsRow_70 (fun H locs hw => ?_)
            refine lv_iinc (v := (v1 + 1)) (lv' := [(3, .int (v1 + 1)), (0, .ref (ad 0)), (1, .int l1), (2, .int l2)]) hx hb dX7_readsRow_73 hl (k := 3) rfl rfl (by decide) rfl (fun ls hl => ?_)
            refine lv_goto (tgt := 2) hx hb dX7_readsRow_76 (by decide) ?_
            exact ih _ _  H locs ls h hw (lv_sub hl [1, 2, 3, 0] rfl)
          replace h := h9
          refine lv_icmp_ne (tgt := 55) hx hb dX7_readsRow_48 (by decide) (fun c19 => ?_) (fun c19 => ?_)
          · replace h := it_f c19 h
            refine lv_aload_n hx hb dX7_readsRow_55 rfl (lv_at hl 0 rfl) ?_
            obtain ⟨⟨v24, σ25⟩, k26, h⟩ := it_b h
            refine kV_i (As := []) (rest := [.int (((gI σ10 0 20) * (4 : Int32)) + v1), .ref (ad 8)]) (q := 0) hx_E hw (c_X7_next l K ad hI   σ17 k26) mi_X7_next mv_X7_next ml_X7_172 (by decide) rfl rfl rfl ⟨⟨Nat.le_of_ble_eq_true rfl, Nat.le_of_ble_eq_true rfl⟩, rfl, rfl⟩ ⟨Nat.zero_le _, Nat.zero_le _⟩ hl.1 rfl (Nat.le_of_ble_eq_true rfl) dX7_readsRow_56 (fun H locs hw => ?_)
            refine lv_bipush (v := 48) hx hb dX7_readsRow_59 (by decide) ?_
            refine lv_isub hx hb dX7_readsRow_61 ?_
            have e9 := Option.some.inj h
            subst e9
            exact hJ22 _ _ rfl  H locs ls hw (lv_sub hl [0, 1, 2, 3] rfl)
          · replace h := it_t c19 h
            refine lv_iconst (v := -1) hx hb dX7_readsRow_51 (by decide) ?_
            refine lv_goto (tgt := 62) hx hb dX7_readsRow_52 (by decide) ?_
            have e9 := Option.some.inj h
            subst e9
            exact hJ22 _ _ rfl  H locs ls hw (lv_sub hl [0, 1, 2, 3] rfl)
        · replace h := it_t c15 h
          refine lv_aload_n hx hb dX7_readsRow_21 rfl (lv_at hl 0 rfl) ?_
          obtain ⟨⟨v28, σ29⟩, k30, h⟩ := it_b h
          refine kV_i (As := []) (rest := []) (q := 0) hx_E hw (c_X7_next l K ad hI   σ10 k30) mi_X7_next mv_X7_next ml_X7_172 (by decide) rfl rfl rfl ⟨⟨Nat.le_of_ble_eq_true rfl, Nat.le_of_ble_eq_true rfl⟩, rfl, rfl⟩ ⟨Nat.zero_le _, Nat.zero_le _⟩ hl.1 rfl (Nat.le_of_ble_eq_true rfl) dX7_readsRow_22 (fun H locs hw => ?_)
          refine lv_bipush (v := 46) hx hb dX7_readsRow_25 (by decide) ?_
          refine lv_icmp_ne (tgt := 79) hx hb dX7_readsRow_27 (by decide) (fun c31 => ?_) (fun c31 => ?_)
          · replace h := it_f c31 h
            have e9 := Option.some.inj h
            subst e9
            exact hJ6 _ _ rfl  H locs ls hw (lv_sub hl [0, 1, 3] rfl)
          · replace h := it_t c31 h
            refine lv_aload_n hx hb dX7_readsRow_30 rfl (lv_at hl 0 rfl) ?_
            refine gM_0_18 hx_E hw fl_X7_32 dX7_readsRow_31 ?_
            refine lv_aload_n hx hb dX7_readsRow_34 rfl (lv_at hl 0 rfl) ?_
            refine gM_0_20 hx_E hw fl_X7_175 dX7_readsRow_35 ?_
            refine lv_iconst (v := 4) hx hb dX7_readsRow_38 (by decide) ?_
            refine lv_imul hx hb dX7_readsRow_39 ?_
            refine lv_iload_n hx hb dX7_readsRow_40 rfl (lv_at hl 3 rfl) ?_
            refine lv_iadd hx hb dX7_readsRow_41 ?_
            refine lv_aload_n hx hb dX7_readsRow_42 rfl (lv_at hl 0 rfl) ?_
            obtain ⟨⟨v32, σ33⟩, k34, h⟩ := it_b h
            refine kV_i (As := []) (rest := [.int (((gI σ29 0 20) * (4 : Int32)) + v1), .ref (ad 8)]) (q := 0) hx_E hw (c_X7_next l K ad hI   σ29 k34) mi_X7_next mv_X7_next ml_X7_172 (by decide) rfl rfl rfl ⟨⟨Nat.le_of_ble_eq_true rfl, Nat.le_of_ble_eq_true rfl⟩, rfl, rfl⟩ ⟨Nat.zero_le _, Nat.zero_le _⟩ hl.1 rfl (Nat.le_of_ble_eq_true rfl) dX7_readsRow_43 (fun H locs hw => ?_)
            refine lv_bipush (v := 46) hx hb dX7_readsRow_46 (by decide) ?_
            obtain ⟨φ39, h9, h_φ39⟩ := it_b h
            have hJ38 : ∀ (v36 : Int32) (σ37 : vSt), (v36, σ37) = φ39 → ∀ (H : Heap) (locs : List Loc) (ls : Array Slot), PW K 12 ad (cM K ad) A s.heap σ37 H locs → lv_has ls 4 [(0, .ref (ad 0)), (1, .int l1), (2, .int l2), (3, .int v1)] → W p l e (rmF 2 22) s m args below meth c H locs 0 0 Q (F0 m 62 ls [.int v36, .int (((gI σ29 0 20) * (4 : Int32)) + v1), .ref (ad 8)]) := by
              intro v36 σ37 e9 H locs ls hw hl
              subst e9
              replace h := h_φ39
              obtain ⟨g43, h⟩ := it_g h
              refine sM_8 hx_E hw g43 dX7_readsRow_62 (fun H locs hw => ?_)
              refine lv_aload_n hx hb dX7_readsRow_63 rfl (lv_at hl 0 rfl) ?_
              refine lv_dup hx hb dX7_readsRow_64 rfl ?_
              refine gM_0_21 hx_E hw fl_X7_169 dX7_readsRow_65 ?_
              refine lv_iconst (v := 1) hx hb dX7_readsRow_68 (by decide) ?_
              refine lv_iadd hx hb dX7_readsRow_69 ?_
              refine pM_0_21 hx_E hw fl_X7_169 dX7_readsRow_70 (fun H locs hw => ?_)
              refine lv_iinc (v := (v1 + 1)) (lv' := [(3, .int (v1 + 1)), (0, .ref (ad 0)), (1, .int l1), (2, .int l2)]) hx hb dX7_readsRow_73 hl (k := 3) rfl rfl (by decide) rfl (fun ls hl => ?_)
              refine lv_goto (tgt := 2) hx hb dX7_readsRow_76 (by decide) ?_
              exact ih _ _  H locs ls h hw (lv_sub hl [1, 2, 3, 0] rfl)
            replace h := h9
            refine lv_icmp_ne (tgt := 55) hx hb dX7_readsRow_48 (by decide) (fun c35 => ?_) (fun c35 => ?_)
            · replace h := it_f c35 h
              refine lv_aload_n hx hb dX7_readsRow_55 rfl (lv_at hl 0 rfl) ?_
              obtain ⟨⟨v40, σ41⟩, k42, h⟩ := it_b h
              refine kV_i (As := []) (rest := [.int (((gI σ29 0 20) * (4 : Int32)) + v1), .ref (ad 8)]) (q := 0) hx_E hw (c_X7_next l K ad hI   σ33 k42) mi_X7_next mv_X7_next ml_X7_172 (by decide) rfl rfl rfl ⟨⟨Nat.le_of_ble_eq_true rfl, Nat.le_of_ble_eq_true rfl⟩, rfl, rfl⟩ ⟨Nat.zero_le _, Nat.zero_le _⟩ hl.1 rfl (Nat.le_of_ble_eq_true rfl) dX7_readsRow_56 (fun H locs hw => ?_)
              refine lv_bipush (v := 48) hx hb dX7_readsRow_59 (by decide) ?_
              refine lv_isub hx hb dX7_readsRow_61 ?_
              have e9 := Option.some.inj h
              subst e9
              exact hJ38 _ _ rfl  H locs ls hw (lv_sub hl [0, 1, 2, 3] rfl)
            · replace h := it_t c35 h
              refine lv_iconst (v := -1) hx hb dX7_readsRow_51 (by decide) ?_
              refine lv_goto (tgt := 62) hx hb dX7_readsRow_52 (by decide) ?_
              have e9 := Option.some.inj h
              subst e9
              exact hJ38 _ _ rfl  H locs ls hw (lv_sub hl [0, 1, 2, 3] rfl)
  exact hL5 600 _ _  H locs ls h9 hw (lv_sub hl [1, 2, 3, 0] rfl)
set_option maxHeartbeats 4000000 in
set_option maxRecDepth 100000 in
theorem c_X7_reads (l : Launch) (K : vK) (ad : Nat → Nat) (hI : adInj 12 ad) (σ : vSt) {σ' : vSt} (h : f_X7_reads σ = some σ') : MCv l yX7_reads (wsY yX7_reads cX7_reads 3 none) (rmF 3 45) K 12 ad (cM K ad) [.ref (ad 0)] σ σ' := by
  refine MCv_of (own := RX7) (plainFor_of_name (by decide)) hI rfl (Nat.le_of_ble_eq_true rfl) ?_
  intro p e s m args below meth c A Q hx_E hE H locs ls hw hl
  have hx := hx_E.1; have hb := hx_E.2.1; have hown := hx_E.2.2.2.1; have hts := hx_E.2.2.2.2.1
  replace hl : lv_has ls 3 [(0, .ref (ad 0))] := hl
  unfold f_X7_reads at h
  refine lv_aload_n hx hb dX7_reads_0 rfl (lv_at hl 0 rfl) ?_
  refine lv_iconst (v := 0) hx hb dX7_reads_1 (by decide) ?_
  refine pM_0_21 hx_E hw fl_X7_169 dX7_reads_2 (fun H locs hw => ?_)
  refine lv_aload_n hx hb dX7_reads_5 rfl (lv_at hl 0 rfl) ?_
  refine lv_iconst (v := -1) hx hb dX7_reads_6 (by decide) ?_
  refine pM_0_22 hx_E hw fl_X7_181 dX7_reads_7 (fun H locs hw => ?_)
  refine lv_aload_n hx hb dX7_reads_10 rfl (lv_at hl 0 rfl) ?_
  refine lv_iconst (v := 0) hx hb dX7_reads_11 (by decide) ?_
  refine pM_0_20 hx_E hw fl_X7_175 dX7_reads_12 (fun H locs hw => ?_)
  refine lv_aload_n hx hb dX7_reads_15 rfl (lv_at hl 0 rfl) ?_
  refine lv_iconst (v := 1) hx hb dX7_reads_16 (by decide) ?_
  refine lv_iconst (v := 4) hx hb dX7_reads_17 (by decide) ?_
  obtain ⟨⟨v1, σ2⟩, k3, h⟩ := it_b h
  refine kV_z (As := [.int (1 : Int32), .int (4 : Int32)]) (rest := []) (q := 0) hx_E hw (c_X7_readsRow l K ad hI  (1 : Int32) (4 : Int32) (sI (sI (sI σ 0 21 (0 : Int32)) 0 22 (-1 : Int32)) 0 20 (0 : Int32)) k3) mi_X7_readsRow mv_X7_readsRow ml_X7_184 (by decide) rfl rfl rfl ⟨⟨Nat.le_of_ble_eq_true rfl, Nat.le_of_ble_eq_true rfl⟩, rfl, rfl⟩ ⟨Nat.zero_le _, Nat.zero_le _⟩ hl.1 rfl (Nat.le_of_ble_eq_true rfl) dX7_reads_18 (fun z4 H locs hw => ?_)
  refine lv_istore_n (lv' := [(1, .int v1), (0, .ref (ad 0))]) hx hb dX7_reads_21 rfl hl (by decide) rfl (fun ls hl => ?_)
  refine lv_aload_n hx hb dX7_reads_22 rfl (lv_at hl 1 rfl) ?_
  refine gM_0_19 hx_E hw fl_X7_178 dX7_reads_23 ?_
  obtain ⟨v5, e_v5, h⟩ := it_b h
  refine lt_topi (Option.some.inj e_v5) ?_
  refine lv_istore_n (lv' := [(2, .int v5), (1, .int v1), (0, .ref (ad 0))]) hx hb dX7_reads_26 rfl hl (by decide) rfl (fun ls hl => ?_)
  obtain ⟨φ12, h9, h_φ12⟩ := it_b h
  have hJ11 : ∀ (v8 : Int32) (σ9 : vSt), (v8, σ9) = φ12 → (v8 = 0 ∨ v8 = 1) → ∀ (H : Heap) (locs : List Loc) (ls : Array Slot), PW K 12 ad (cM K ad) A s.heap σ9 H locs → lv_has ls 3 [(0, .ref (ad 0)), (1, .int v8)] → W p l e (rmF 3 45) s m args below meth c H locs 0 0 Q (F0 m 68 ls []) := by
    intro v8 σ9 e9 z_v8 H locs ls hw hl
    subst e9
    replace h := h_φ12
    refine lv_aload_n hx hb dX7_reads_68 rfl (lv_at hl 0 rfl) ?_
    refine lv_aload_n hx hb dX7_reads_69 rfl (lv_at hl 0 rfl) ?_
    obtain ⟨⟨v23, σ24⟩, k25, h⟩ := it_b h
    refine kV_i (As := []) (rest := [.ref (ad 0)]) (q := 0) hx_E hw (c_X7_next l K ad hI   σ9 k25) mi_X7_next mv_X7_next ml_X7_172 (by decide) rfl rfl rfl ⟨⟨Nat.le_of_ble_eq_true rfl, Nat.le_of_ble_eq_true rfl⟩, rfl, rfl⟩ ⟨Nat.zero_le _, Nat.zero_le _⟩ hl.1 rfl (Nat.le_of_ble_eq_true rfl) dX7_reads_70 (fun H locs hw => ?_)
    refine lv_iconst (v := -1) hx hb dX7_reads_73 (by decide) ?_
    refine lv_icmp_ne (tgt := 81) hx hb dX7_reads_74 (by decide) (fun c26 => ?_) (fun c26 => ?_)
    · replace h := it_f c26 h
      refine lv_aload_n hx hb dX7_reads_81 rfl (lv_at hl 0 rfl) ?_
      refine gM_0_21 hx_E hw fl_X7_169 dX7_reads_82 ?_
      refine lv_goto (tgt := 89) hx hb dX7_reads_85 (by decide) ?_
      refine pM_0_22 hx_E hw fl_X7_181 dX7_reads_89 (fun H locs hw => ?_)
      exact hE hw (Option.some.inj h) dX7_reads_92
    · replace h := it_t c26 h
      refine lv_iload_n hx hb dX7_reads_77 rfl (lv_at hl 1 rfl) ?_
      refine lv_if_ne (tgt := 88) hx hb dX7_reads_78 (by decide) (fun c27 => ?_) (fun c27 => ?_)
      · replace h := it_f c27 h
        refine lv_iconst (v := -1) hx hb dX7_reads_88 (by decide) ?_
        refine pM_0_22 hx_E hw fl_X7_181 dX7_reads_89 (fun H locs hw => ?_)
        exact hE hw (Option.some.inj h) dX7_reads_92
      · replace h := it_t c27 h
        refine lv_aload_n hx hb dX7_reads_81 rfl (lv_at hl 0 rfl) ?_
        refine gM_0_21 hx_E hw fl_X7_169 dX7_reads_82 ?_
        refine lv_goto (tgt := 89) hx hb dX7_reads_85 (by decide) ?_
        refine pM_0_22 hx_E hw fl_X7_181 dX7_reads_89 (fun H locs hw => ?_)
        exact hE hw (Option.some.inj h) dX7_reads_92
  have hL10 : ∀ (n9 : Nat) (v6 : Int32) (σ7 : vSt), (v6 = 0 ∨ v6 = 1) → ∀ (H : Heap) (locs : List Loc) (ls : Array Slot), f_X7_reads_27 v5 n9 v6 σ7 = some φ12 → PW K 12 ad (cM K ad) A s.heap σ7 H locs → lv_has ls 3 [(0, .ref (ad 0)), (1, .int v6), (2, .int v5)] → W p l e (rmF 3 45) s m args below meth c H locs 0 0 Q (F0 m 27 ls []) := by
    intro n9
    induction n9 with
    | zero => intro v6 σ7 z_v6 H locs ls h hw hl; rw [f_X7_reads_27.eq_1] at h; exact it_n h
    | succ n9 ih =>
      intro v6 σ7 z_v6 H locs ls h hw hl
      rw [f_X7_reads_27.eq_2] at h
      refine lv_iload_n hx hb dX7_reads_27 rfl (lv_at hl 1 rfl) ?_
      refine lv_if_eq (tgt := 68) hx hb dX7_reads_28 (by decide) (fun c13 => ?_) (fun c13 => ?_)
      · replace h := it_t c13 h
        have e9 := Option.some.inj h
        subst e9
        exact hJ11 _ _ rfl z_v6 H locs ls hw (lv_sub hl [0, 1] rfl)
      · replace h := it_f c13 h
        refine lv_aload_n hx hb dX7_reads_31 rfl (lv_at hl 0 rfl) ?_
        refine gM_0_20 hx_E hw fl_X7_175 dX7_reads_32 ?_
        refine lv_iconst (v := 4) hx hb dX7_reads_35 (by decide) ?_
        refine lv_icmp_ge (tgt := 68) hx hb dX7_reads_36 (by decide) (fun c14 => ?_) (fun c14 => ?_)
        · replace h := it_t c14 h
          have e9 := Option.some.inj h
          subst e9
          exact hJ11 _ _ rfl z_v6 H locs ls hw (lv_sub hl [0, 1] rfl)
        · replace h := it_f c14 h
          refine lv_aload_n hx hb dX7_reads_39 rfl (lv_at hl 0 rfl) ?_
          obtain ⟨⟨v15, σ16⟩, k17, h⟩ := it_b h
          refine kV_i (As := []) (rest := []) (q := 0) hx_E hw (c_X7_next l K ad hI   σ7 k17) mi_X7_next mv_X7_next ml_X7_172 (by decide) rfl rfl rfl ⟨⟨Nat.le_of_ble_eq_true rfl, Nat.le_of_ble_eq_true rfl⟩, rfl, rfl⟩ ⟨Nat.zero_le _, Nat.zero_le _⟩ hl.1 rfl (Nat.le_of_ble_eq_true rfl) dX7_reads_40 (fun H locs hw => ?_)
          refine lv_bipush (v := 47) hx hb dX7_reads_43 (by decide) ?_
          refine lv_icmp_ne (tgt := 68) hx hb dX7_reads_45 (by decide) (fun c18 => ?_) (fun c18 => ?_)
          · replace h := it_f c18 h
            have e9 := Option.some.inj h
            subst e9
            exact hJ11 _ _ rfl z_v6 H locs ls hw (lv_sub hl [0, 1] rfl)
          · replace h := it_t c18 h
            refine lv_aload_n hx hb dX7_reads_48 rfl (lv_at hl 0 rfl) ?_
            refine lv_dup hx hb dX7_reads_49 rfl ?_
            refine gM_0_21 hx_E hw fl_X7_169 dX7_reads_50 ?_
            refine lv_iconst (v := 1) hx hb dX7_reads_53 (by decide) ?_
            refine lv_iadd hx hb dX7_reads_54 ?_
            refine pM_0_21 hx_E hw fl_X7_169 dX7_reads_55 (fun H locs hw => ?_)
            refine lv_aload_n hx hb dX7_reads_58 rfl (lv_at hl 0 rfl) ?_
            refine lv_iload_n hx hb dX7_reads_59 rfl (lv_at hl 2 rfl) ?_
            refine lv_iload_n hx hb dX7_reads_60 rfl (lv_at hl 2 rfl) ?_
            obtain ⟨⟨v19, σ20⟩, k21, h⟩ := it_b h
            refine kV_z (As := [.int v5, .int v5]) (rest := []) (q := 0) hx_E hw (c_X7_readsRow l K ad hI  v5 v5 (sI σ16 0 21 ((gI σ16 0 21) + (1 : Int32))) k21) mi_X7_readsRow mv_X7_readsRow ml_X7_184 (by decide) rfl rfl rfl ⟨⟨Nat.le_of_ble_eq_true rfl, Nat.le_of_ble_eq_true rfl⟩, rfl, rfl⟩ ⟨Nat.zero_le _, Nat.zero_le _⟩ hl.1 rfl (Nat.le_of_ble_eq_true rfl) dX7_reads_61 (fun z22 H locs hw => ?_)
            refine lv_istore_n (lv' := [(1, .int v19), (0, .ref (ad 0)), (2, .int v5)]) hx hb dX7_reads_64 rfl hl (by decide) rfl (fun ls hl => ?_)
            refine lv_goto (tgt := 27) hx hb dX7_reads_65 (by decide) ?_
            exact ih _ _ z22 H locs ls h hw (lv_sub hl [1, 0, 2] rfl)
  exact hL10 600 _ _ z4 H locs ls h9 hw (lv_sub hl [2, 1, 0] rfl)
set_option maxHeartbeats 4000000 in
set_option maxRecDepth 100000 in
theorem c_X7_fault (l : Launch) (K : vK) (ad : Nat → Nat) (hI : adInj 12 ad) (σ : vSt) {r : Int32} {σ' : vSt} (h : f_X7_fault σ = some (r, σ')) : MCi l yX7_fault (wsY yX7_fault cX7_fault 1 (some .int)) (rmF 4 67) K 12 ad (cM K ad) [.ref (ad 0)] σ r σ' := by
  refine MCi_of (own := RX7) (plainFor_of_name (by decide)) hI rfl (Nat.le_of_ble_eq_true rfl) ?_
  intro p e s m args below meth c A Q hx_E hE H locs ls hw hl
  have hx := hx_E.1; have hb := hx_E.2.1; have hown := hx_E.2.2.2.1; have hts := hx_E.2.2.2.2.1
  replace hl : lv_has ls 1 [(0, .ref (ad 0))] := hl
  unfold f_X7_fault at h
  refine lv_aload_n hx hb dX7_fault_0 rfl (lv_at hl 0 rfl) ?_
  obtain ⟨σ1, k2, h⟩ := it_b h
  refine kV_v (As := []) (rest := []) (q := 0) hx_E hw (c_X7_reads l K ad hI   σ k2) mi_X7_reads mv_X7_reads ml_X7_187 (by decide) rfl rfl rfl ⟨⟨Nat.le_of_ble_eq_true rfl, Nat.le_of_ble_eq_true rfl⟩, rfl, rfl⟩ ⟨Nat.zero_le _, Nat.zero_le _⟩ hl.1 rfl (Nat.le_of_ble_eq_true rfl) dX7_fault_1 (fun H locs hw => ?_)
  refine lv_aload_n hx hb dX7_fault_4 rfl (lv_at hl 0 rfl) ?_
  refine gM_0_22 hx_E hw fl_X7_181 dX7_fault_5 ?_
  exact hE hw (congrArg Prod.fst (Option.some.inj h)) (congrArg Prod.snd (Option.some.inj h)) dX7_fault_8
