set_option maxHeartbeats 4000000 in
set_option maxRecDepth 100000 in
theorem c_L_sets (l : Launch) (K : vK) (N : Nat) (hN : 31 ≤ N) (ad : Nat → Nat) (hI : adInj N ad) (l2 : Int32) (l3 : Int32) (l4 : Int32) (σ : vSt) {r : Int32} {σ' : vSt} (h : f_L_sets l2 l3 l4 σ = some (r, σ')) : MCz l yL_sets (wsY yL_sets cL_sets 7 (some .boolean)) (rmF 6 118) K N ad (cC K ad) [.ref (ad 8), .ref (ad 30), .int l2, .int l3, .int l4] σ r σ' := by
  refine MCz_of (own := RL) (plainFor_of_name (by decide)) hI rfl (Nat.le_of_ble_eq_true rfl) ?_
  intro p e s m args below meth c A Q hx_E hE H locs ls hw hl
  have hx := hx_E.1; have hb := hx_E.2.1; have hown := hx_E.2.2.2.1; have hts := hx_E.2.2.2.2.1
  replace hl : lv_has ls 7 [(0, .ref (ad 8)), (1, .ref (ad 30)), (2, .int l2), (3, .int l3), (4, .int l4)] := hl
  have h30 : 30 ≤ N := Nat.le_trans (by decide) hN
  have hI30 : adInj 30 ad := adInj_le h30 hI
  unfold f_L_sets at h
  refine lv_iconst (v := 0) hx hb dL_sets_0 (by decide) ?_
  refine lv_istore (lv' := [(5, .int (0 : Int32)), (0, .ref (ad 8)), (1, .ref (ad 30)), (2, .int l2), (3, .int l3), (4, .int l4)]) hx hb dL_sets_1 hl (by decide) rfl (fun ls hl => ?_)
  obtain ⟨φ6, h9, h_φ6⟩ := it_b h
  have hJ5 : ∀ (σ3 : vSt), σ3 = φ6 → ∀ (H : Heap) (locs : List Loc) (ls : Array Slot), PW K N ad (cC K ad) A s.heap σ3 H locs → lv_has ls 7 [(0, .ref (ad 8)), (1, .ref (ad 30)), (2, .int l2), (4, .int l4)] → W p l e (rmF 6 118) s m args below meth c H locs 0 0 Q (F0 m 45 ls []) := by
    intro σ3 e9 H locs ls hw hl
    subst e9
    replace h := h_φ6
    refine lv_iconst (v := 0) hx hb dL_sets_45 (by decide) ?_
    refine lv_istore (lv' := [(5, .int (0 : Int32)), (0, .ref (ad 8)), (1, .ref (ad 30)), (2, .int l2), (4, .int l4)]) hx hb dL_sets_46 hl (by decide) rfl (fun ls hl => ?_)
    obtain ⟨φ18, h9, h_φ18⟩ := it_b h
    have hJ17 : ∀ (σ15 : vSt), σ15 = φ18 → ∀ (H : Heap) (locs : List Loc) (ls : Array Slot), PW K N ad (cC K ad) A s.heap σ15 H locs → lv_has ls 7 [(0, .ref (ad 8)), (1, .ref (ad 30)), (2, .int l2), (4, .int l4)] → W p l e (rmF 6 118) s m args below meth c H locs 0 0 Q (F0 m 69 ls []) := by
      intro σ15 e9 H locs ls hw hl
      subst e9
      replace h := h_φ18
      refine lv_aload_n hx hb dL_sets_69 rfl (lv_at hl 0 rfl) ?_
      refine lv_aload_n hx hb dL_sets_70 rfl (lv_at hl 1 rfl) ?_
      refine lv_iload_n hx hb dL_sets_71 rfl (lv_at hl 2 rfl) ?_
      refine lv_iload hx hb dL_sets_72 (lv_at hl 3 rfl) ?_
      obtain ⟨⟨v21, σ22⟩, k23, h⟩ := it_b h
      refine kT_z (As := [.ref (ad 8), .ref (ad 30), .int l2, .int l4]) (rest := []) hx_E hw (c_L_types l K N hN ad hI l2 l4 σ15 k23) mi_L_types sm_L_types ml_L_74 rfl ⟨⟨Nat.le_of_ble_eq_true rfl, Nat.le_of_ble_eq_true rfl⟩, rfl, rfl⟩ ⟨Nat.zero_le _, Nat.zero_le _⟩ hl.1 rfl (Nat.le_of_ble_eq_true rfl) dL_sets_74 (fun z24 H locs hw => ?_)
      refine lv_if_eq (tgt := 129) hx hb dL_sets_77 (by decide) (fun c25 => ?_) (fun c25 => ?_)
      · replace h := it_t c25 h
        refine lv_iconst (v := 0) hx hb dL_sets_129 (by decide) ?_
        exact hE hw (congrArg Prod.fst (Option.some.inj h)) (congrArg Prod.snd (Option.some.inj h)) (Or.inl rfl) dL_sets_130
      · replace h := it_f c25 h
        refine lv_aload_n hx hb dL_sets_80 rfl (lv_at hl 0 rfl) ?_
        obtain ⟨⟨v26, σ27⟩, k28, h⟩ := it_b h
        refine kU_i (As := []) (rest := []) (q := 8) hx_E h30 hI hw (c_X6_setPuzzle l K ad hI30  σ22 k28) mi_X6_setPuzzle mv_X6_setPuzzle ml_L_78 (by decide) rfl rfl rfl ⟨⟨Nat.le_of_ble_eq_true rfl, Nat.le_of_ble_eq_true rfl⟩, rfl, rfl⟩ ⟨Nat.zero_le _, Nat.zero_le _⟩ hl.1 rfl (Nat.le_of_ble_eq_true rfl) dL_sets_81 (fun H locs hw => ?_)
        obtain ⟨σ29, e_σ29, h⟩ := it_b h
        replace hw := PW_cast (Option.some.inj e_σ29) hw
        refine lv_aload_n hx hb dL_sets_84 rfl (lv_at hl 1 rfl) ?_
        obtain ⟨v30, k31, h⟩ := it_b h
        refine kT_i (As := [.ref (ad 30)]) (rest := [.int v26]) hx_E hw (c_L_edges l K N hN ad hI  σ29 k31) mi_L_edges sm_L_edges ml_L_19 rfl ⟨⟨Nat.le_of_ble_eq_true rfl, Nat.le_of_ble_eq_true rfl⟩, rfl, rfl⟩ ⟨Nat.zero_le _, Nat.zero_le _⟩ hl.1 rfl (Nat.le_of_ble_eq_true rfl) dL_sets_85 (fun H locs hw => ?_)
        refine lv_icmp_ne (tgt := 129) hx hb dL_sets_88 (by decide) (fun c32 => ?_) (fun c32 => ?_)
        · replace h := it_f c32 h
          refine lv_iconst (v := 0) hx hb dL_sets_129 (by decide) ?_
          exact hE hw (congrArg Prod.fst (Option.some.inj h)) (congrArg Prod.snd (Option.some.inj h)) (Or.inl rfl) dL_sets_130
        · replace h := it_t c32 h
          refine lv_aload_n hx hb dL_sets_91 rfl (lv_at hl 0 rfl) ?_
          refine lv_iconst (v := 0) hx hb dL_sets_92 (by decide) ?_
          obtain ⟨v33, k34, h⟩ := it_b h
          refine kUr_i (As := [.int (0 : Int32)]) (rest := []) (q := 8) hx_E h30 hI hw (c_X6_count l K ad hI30 (0 : Int32) σ29 k34) mi_X6_count mv_X6_count ml_L_71 (by decide) rfl rfl rfl ⟨⟨Nat.le_of_ble_eq_true rfl, Nat.le_of_ble_eq_true rfl⟩, rfl, rfl⟩ ⟨Nat.zero_le _, Nat.zero_le _⟩ hl.1 rfl (Nat.le_of_ble_eq_true rfl) dL_sets_93 (fun H locs hw => ?_)
          refine lv_aload_n hx hb dL_sets_96 rfl (lv_at hl 1 rfl) ?_
          refine lv_iconst (v := 0) hx hb dL_sets_97 (by decide) ?_
          refine acC_30 hx_E hw hN (by decide) rfl dL_sets_98 ?_
          refine lv_icmp_ne (tgt := 129) hx hb dL_sets_99 (by decide) (fun c35 => ?_) (fun c35 => ?_)
          · replace h := it_f c35 h
            refine lv_iconst (v := 0) hx hb dL_sets_129 (by decide) ?_
            exact hE hw (congrArg Prod.fst (Option.some.inj h)) (congrArg Prod.snd (Option.some.inj h)) (Or.inl rfl) dL_sets_130
          · replace h := it_t c35 h
            refine lv_aload_n hx hb dL_sets_102 rfl (lv_at hl 0 rfl) ?_
            refine lv_iconst (v := 1) hx hb dL_sets_103 (by decide) ?_
            obtain ⟨v36, k37, h⟩ := it_b h
            refine kUr_i (As := [.int (1 : Int32)]) (rest := []) (q := 8) hx_E h30 hI hw (c_X6_count l K ad hI30 (1 : Int32) σ29 k37) mi_X6_count mv_X6_count ml_L_71 (by decide) rfl rfl rfl ⟨⟨Nat.le_of_ble_eq_true rfl, Nat.le_of_ble_eq_true rfl⟩, rfl, rfl⟩ ⟨Nat.zero_le _, Nat.zero_le _⟩ hl.1 rfl (Nat.le_of_ble_eq_true rfl) dL_sets_104 (fun H locs hw => ?_)
            refine lv_aload_n hx hb dL_sets_107 rfl (lv_at hl 1 rfl) ?_
            refine lv_iconst (v := 1) hx hb dL_sets_108 (by decide) ?_
            refine acC_30 hx_E hw hN (by decide) rfl dL_sets_109 ?_
            refine lv_icmp_ne (tgt := 129) hx hb dL_sets_110 (by decide) (fun c38 => ?_) (fun c38 => ?_)
            · replace h := it_f c38 h
              refine lv_iconst (v := 0) hx hb dL_sets_129 (by decide) ?_
              exact hE hw (congrArg Prod.fst (Option.some.inj h)) (congrArg Prod.snd (Option.some.inj h)) (Or.inl rfl) dL_sets_130
            · replace h := it_t c38 h
              refine lv_aload_n hx hb dL_sets_113 rfl (lv_at hl 0 rfl) ?_
              refine lv_iconst (v := 2) hx hb dL_sets_114 (by decide) ?_
              obtain ⟨v39, k40, h⟩ := it_b h
              refine kUr_i (As := [.int (2 : Int32)]) (rest := []) (q := 8) hx_E h30 hI hw (c_X6_count l K ad hI30 (2 : Int32) σ29 k40) mi_X6_count mv_X6_count ml_L_71 (by decide) rfl rfl rfl ⟨⟨Nat.le_of_ble_eq_true rfl, Nat.le_of_ble_eq_true rfl⟩, rfl, rfl⟩ ⟨Nat.zero_le _, Nat.zero_le _⟩ hl.1 rfl (Nat.le_of_ble_eq_true rfl) dL_sets_115 (fun H locs hw => ?_)
              refine lv_aload_n hx hb dL_sets_118 rfl (lv_at hl 1 rfl) ?_
              obtain ⟨v41, k42, h⟩ := it_b h
              refine kT_i (As := [.ref (ad 30)]) (rest := [.int v39]) hx_E hw (c_L_edges l K N hN ad hI  σ29 k42) mi_L_edges sm_L_edges ml_L_19 rfl ⟨⟨Nat.le_of_ble_eq_true rfl, Nat.le_of_ble_eq_true rfl⟩, rfl, rfl⟩ ⟨Nat.zero_le _, Nat.zero_le _⟩ hl.1 rfl (Nat.le_of_ble_eq_true rfl) dL_sets_119 (fun H locs hw => ?_)
              refine lv_icmp_ne (tgt := 129) hx hb dL_sets_122 (by decide) (fun c43 => ?_) (fun c43 => ?_)
              · replace h := it_f c43 h
                refine lv_iconst (v := 0) hx hb dL_sets_129 (by decide) ?_
                exact hE hw (congrArg Prod.fst (Option.some.inj h)) (congrArg Prod.snd (Option.some.inj h)) (Or.inl rfl) dL_sets_130
              · replace h := it_t c43 h
                refine lv_iconst (v := 1) hx hb dL_sets_125 (by decide) ?_
                refine lv_goto (tgt := 130) hx hb dL_sets_126 (by decide) ?_
                exact hE hw (congrArg Prod.fst (Option.some.inj h)) (congrArg Prod.snd (Option.some.inj h)) (Or.inr rfl) dL_sets_130
    have hL16 : ∀ (n9 : Nat) (v13 : Int32) (σ14 : vSt), ∀ (H : Heap) (locs : List Loc) (ls : Array Slot), f_L_sets_48  n9 v13 σ14 = some φ18 → PW K N ad (cC K ad) A s.heap σ14 H locs → lv_has ls 7 [(0, .ref (ad 8)), (1, .ref (ad 30)), (2, .int l2), (4, .int l4), (5, .int v13)] → W p l e (rmF 6 118) s m args below meth c H locs 0 0 Q (F0 m 48 ls []) := by
      intro n9
      induction n9 with
      | zero => intro v13 σ14 H locs ls h hw hl; rw [f_L_sets_48.eq_1] at h; exact it_n h
      | succ n9 ih =>
        intro v13 σ14 H locs ls h hw hl
        rw [f_L_sets_48.eq_2] at h
        refine lv_iload hx hb dL_sets_48 (lv_at hl 4 rfl) ?_
        refine lv_bipush (v := 40) hx hb dL_sets_50 (by decide) ?_
        refine lv_icmp_ge (tgt := 69) hx hb dL_sets_52 (by decide) (fun c19 => ?_) (fun c19 => ?_)
        · replace h := it_t c19 h
          have e9 := Option.some.inj h
          subst e9
          exact hJ17 _ rfl  H locs ls hw (lv_sub hl [0, 1, 2, 3] rfl)
        · replace h := it_f c19 h
          refine lv_aload_n hx hb dL_sets_55 rfl (lv_at hl 1 rfl) ?_
          refine lv_bipush (v := 18) hx hb dL_sets_56 (by decide) ?_
          refine lv_iload hx hb dL_sets_58 (lv_at hl 4 rfl) ?_
          refine lv_iadd hx hb dL_sets_60 ?_
          refine lv_iconst (v := 0) hx hb dL_sets_61 (by decide) ?_
          obtain ⟨g20, h⟩ := it_g h
          refine sC_30 hx_E hw hN g20 dL_sets_62 (fun H locs hw => ?_)
          refine lv_iinc (v := (v13 + 1)) (lv' := [(5, .int (v13 + 1)), (0, .ref (ad 8)), (1, .ref (ad 30)), (2, .int l2), (4, .int l4)]) hx hb dL_sets_63 hl (k := 4) rfl rfl (by decide) rfl (fun ls hl => ?_)
          refine lv_goto (tgt := 48) hx hb dL_sets_66 (by decide) ?_
          exact ih _ _   H locs ls h hw (lv_sub hl [1, 2, 3, 4, 0] rfl)
    exact hL16 600 _ _   H locs ls h9 hw (lv_sub hl [1, 2, 3, 4, 0] rfl)
  have hL4 : ∀ (n9 : Nat) (v1 : Int32) (σ2 : vSt), ∀ (H : Heap) (locs : List Loc) (ls : Array Slot), f_L_sets_3 l3 n9 v1 σ2 = some φ6 → PW K N ad (cC K ad) A s.heap σ2 H locs → lv_has ls 7 [(0, .ref (ad 8)), (1, .ref (ad 30)), (2, .int l2), (3, .int l3), (4, .int l4), (5, .int v1)] → W p l e (rmF 6 118) s m args below meth c H locs 0 0 Q (F0 m 3 ls []) := by
    intro n9
    induction n9 with
    | zero => intro v1 σ2 H locs ls h hw hl; rw [f_L_sets_3.eq_1] at h; exact it_n h
    | succ n9 ih =>
      intro v1 σ2 H locs ls h hw hl
      rw [f_L_sets_3.eq_2] at h
      refine lv_iload hx hb dL_sets_3 (lv_at hl 5 rfl) ?_
      refine lv_bipush (v := 16) hx hb dL_sets_5 (by decide) ?_
      refine lv_icmp_ge (tgt := 45) hx hb dL_sets_7 (by decide) (fun c7 => ?_) (fun c7 => ?_)
      · replace h := it_t c7 h
        have e9 := Option.some.inj h
        subst e9
        exact hJ5 _ rfl  H locs ls hw (lv_sub hl [0, 1, 2, 4] rfl)
      · replace h := it_f c7 h
        refine lv_iload_n hx hb dL_sets_10 rfl (lv_at hl 3 rfl) ?_
        refine lv_iload hx hb dL_sets_11 (lv_at hl 5 rfl) ?_
        refine lv_ishr hx hb dL_sets_13 ?_
        refine lv_bipush (v := 7) hx hb dL_sets_14 (by decide) ?_
        obtain ⟨v8, k9, h⟩ := it_b h
        refine kS_i (As := [.int (l3 >>> (v1 &&& 31)), .int (7 : Int32)]) (rest := []) hx_E hw (c_L_low l K (l3 >>> (v1 &&& 31)) (7 : Int32) k9) mi_L_low sm_L_low ml_L_60 rfl ⟨⟨Nat.le_of_ble_eq_true rfl, Nat.le_of_ble_eq_true rfl⟩, rfl, rfl⟩ ⟨Nat.zero_le _, Nat.zero_le _⟩ hl.1 rfl (Nat.le_of_ble_eq_true rfl) dL_sets_16 (fun H locs hw => ?_)
        refine lv_istore (lv' := [(6, .int v8), (0, .ref (ad 8)), (1, .ref (ad 30)), (2, .int l2), (3, .int l3), (4, .int l4), (5, .int v1)]) hx hb dL_sets_19 hl (by decide) rfl (fun ls hl => ?_)
        refine lv_aload_n hx hb dL_sets_21 rfl (lv_at hl 2 rfl) ?_
        refine lv_iconst (v := 2) hx hb dL_sets_22 (by decide) ?_
        refine lv_iload hx hb dL_sets_23 (lv_at hl 6 rfl) ?_
        refine lv_iadd hx hb dL_sets_25 ?_
        refine lv_iload hx hb dL_sets_26 (lv_at hl 0 rfl) ?_
        refine lv_iconst (v := 4) hx hb dL_sets_28 (by decide) ?_
        refine lv_icmp_ge (tgt := 37) hx hb dL_sets_29 (by decide) (fun c10 => ?_) (fun c10 => ?_)
        · replace h := it_t c10 h
          refine lv_iconst (v := -1) hx hb dL_sets_37 (by decide) ?_
          obtain ⟨g11, h⟩ := it_g h
          refine sC_30 hx_E hw hN g11 dL_sets_38 (fun H locs hw => ?_)
          refine lv_iinc (v := (v1 + 1)) (lv' := [(5, .int (v1 + 1)), (6, .int v8), (0, .ref (ad 8)), (1, .ref (ad 30)), (2, .int l2), (3, .int l3), (4, .int l4)]) hx hb dL_sets_39 hl (k := 6) rfl rfl (by decide) rfl (fun ls hl => ?_)
          refine lv_goto (tgt := 3) hx hb dL_sets_42 (by decide) ?_
          exact ih _ _   H locs ls h hw (lv_sub hl [2, 3, 4, 5, 6, 0] rfl)
        · replace h := it_f c10 h
          refine lv_iload hx hb dL_sets_32 (lv_at hl 0 rfl) ?_
          refine lv_goto (tgt := 38) hx hb dL_sets_34 (by decide) ?_
          obtain ⟨g12, h⟩ := it_g h
          refine sC_30 hx_E hw hN g12 dL_sets_38 (fun H locs hw => ?_)
          refine lv_iinc (v := (v1 + 1)) (lv' := [(5, .int (v1 + 1)), (6, .int v8), (0, .ref (ad 8)), (1, .ref (ad 30)), (2, .int l2), (3, .int l3), (4, .int l4)]) hx hb dL_sets_39 hl (k := 6) rfl rfl (by decide) rfl (fun ls hl => ?_)
          refine lv_goto (tgt := 3) hx hb dL_sets_42 (by decide) ?_
          exact ih _ _   H locs ls h hw (lv_sub hl [2, 3, 4, 5, 6, 0] rfl)
  exact hL4 600 _ _   H locs ls h9 hw (lv_sub hl [1, 2, 3, 4, 5, 0] rfl)
set_option maxHeartbeats 4000000 in
set_option maxRecDepth 100000 in
theorem c_L_marks (l : Launch) (K : vK) (N : Nat) (hN : 31 ≤ N) (ad : Nat → Nat) (hI : adInj N ad) (l2 : Int32) (l3 : Int32) (σ : vSt) {r : Int32} {σ' : vSt} (h : f_L_marks l2 l3 σ = some (r, σ')) : MCz l yL_marks (wsY yL_marks cL_marks 5 (some .boolean)) (rmF 6 125) K N ad (cC K ad) [.ref (ad 8), .ref (ad 30), .int l2, .int l3] σ r σ' := by
  refine MCz_of (own := RL) (plainFor_of_name (by decide)) hI rfl (Nat.le_of_ble_eq_true rfl) ?_
  intro p e s m args below meth c A Q hx_E hE H locs ls hw hl
  have hx := hx_E.1; have hb := hx_E.2.1; have hown := hx_E.2.2.2.1; have hts := hx_E.2.2.2.2.1
  replace hl : lv_has ls 5 [(0, .ref (ad 8)), (1, .ref (ad 30)), (2, .int l2), (3, .int l3)] := hl
  have h30 : 30 ≤ N := Nat.le_trans (by decide) hN
  have hI30 : adInj 30 ad := adInj_le h30 hI
  unfold f_L_marks at h
  refine lv_aload_n hx hb dL_marks_0 rfl (lv_at hl 1 rfl) ?_
  refine lv_bipush (v := 18) hx hb dL_marks_1 (by decide) ?_
  refine lv_iload_n hx hb dL_marks_3 rfl (lv_at hl 2 rfl) ?_
  refine lv_iadd hx hb dL_marks_4 ?_
  obtain ⟨g1, h⟩ := it_g h
  refine aC_30 hx_E hw hN g1 dL_marks_5 ?_
  obtain ⟨v2, e_v2, h⟩ := it_b h
  refine lt_topi (Option.some.inj e_v2) ?_
  refine lv_istore (lv' := [(4, .int v2), (0, .ref (ad 8)), (1, .ref (ad 30)), (2, .int l2), (3, .int l3)]) hx hb dL_marks_6 hl (by decide) rfl (fun ls hl => ?_)
  refine lv_aload_n hx hb dL_marks_8 rfl (lv_at hl 2 rfl) ?_
  refine lv_bipush (v := 18) hx hb dL_marks_9 (by decide) ?_
  refine lv_iload_n hx hb dL_marks_11 rfl (lv_at hl 3 rfl) ?_
  refine lv_iadd hx hb dL_marks_12 ?_
  refine lv_iload_n hx hb dL_marks_13 rfl (lv_at hl 4 rfl) ?_
  obtain ⟨g3, h⟩ := it_g h
  refine sC_30 hx_E hw hN g3 dL_marks_14 (fun H locs hw => ?_)
  refine lv_aload_n hx hb dL_marks_15 rfl (lv_at hl 1 rfl) ?_
  refine lv_iload_n hx hb dL_marks_16 rfl (lv_at hl 3 rfl) ?_
  refine lv_iload_n hx hb dL_marks_17 rfl (lv_at hl 4 rfl) ?_
  obtain ⟨⟨v4, σ5⟩, k6, h⟩ := it_b h
  refine kU_i (As := [.int l2, .int l3]) (rest := []) (q := 8) hx_E h30 hI hw (c_X6_mark l K ad hI30 l2 l3 (sI σ 30 ((18 : Int32) + l2).toNatClampNeg l3) k6) mi_X6_mark mv_X6_mark ml_L_81 (by decide) rfl rfl rfl ⟨⟨Nat.le_of_ble_eq_true rfl, Nat.le_of_ble_eq_true rfl⟩, rfl, rfl⟩ ⟨Nat.zero_le _, Nat.zero_le _⟩ hl.1 rfl (Nat.le_of_ble_eq_true rfl) dL_marks_18 (fun H locs hw => ?_)
  obtain ⟨σ7, e_σ7, h⟩ := it_b h
  replace hw := PW_cast (Option.some.inj e_σ7) hw
  refine lv_iload hx hb dL_marks_21 (lv_at hl 0 rfl) ?_
  refine lv_icmp_ne (tgt := 64) hx hb dL_marks_23 (by decide) (fun c8 => ?_) (fun c8 => ?_)
  · replace h := it_f c8 h
    refine lv_iconst (v := 0) hx hb dL_marks_64 (by decide) ?_
    exact hE hw (congrArg Prod.fst (Option.some.inj h)) (congrArg Prod.snd (Option.some.inj h)) (Or.inl rfl) dL_marks_65
  · replace h := it_t c8 h
    refine lv_aload_n hx hb dL_marks_26 rfl (lv_at hl 1 rfl) ?_
    refine lv_iload_n hx hb dL_marks_27 rfl (lv_at hl 3 rfl) ?_
    obtain ⟨v9, k10, h⟩ := it_b h
    refine kUr_i (As := [.int l2]) (rest := []) (q := 8) hx_E h30 hI hw (c_X6_edge l K ad hI30 l2 σ7 k10) mi_X6_edge mv_X6_edge ml_L_84 (by decide) rfl rfl rfl ⟨⟨Nat.le_of_ble_eq_true rfl, Nat.le_of_ble_eq_true rfl⟩, rfl, rfl⟩ ⟨Nat.zero_le _, Nat.zero_le _⟩ hl.1 rfl (Nat.le_of_ble_eq_true rfl) dL_marks_28 (fun H locs hw => ?_)
    refine lv_iload_n hx hb dL_marks_31 rfl (lv_at hl 4 rfl) ?_
    refine lv_icmp_ne (tgt := 64) hx hb dL_marks_32 (by decide) (fun c11 => ?_) (fun c11 => ?_)
    · replace h := it_f c11 h
      refine lv_iconst (v := 0) hx hb dL_marks_64 (by decide) ?_
      exact hE hw (congrArg Prod.fst (Option.some.inj h)) (congrArg Prod.snd (Option.some.inj h)) (Or.inl rfl) dL_marks_65
    · replace h := it_t c11 h
      refine lv_aload_n hx hb dL_marks_35 rfl (lv_at hl 1 rfl) ?_
      refine lv_aload_n hx hb dL_marks_36 rfl (lv_at hl 2 rfl) ?_
      obtain ⟨v12, k13, h⟩ := it_b h
      refine kT_i (As := [.ref (ad 30)]) (rest := [.ref (ad 8)]) hx_E hw (c_L_edges l K N hN ad hI  σ7 k13) mi_L_edges sm_L_edges ml_L_19 rfl ⟨⟨Nat.le_of_ble_eq_true rfl, Nat.le_of_ble_eq_true rfl⟩, rfl, rfl⟩ ⟨Nat.zero_le _, Nat.zero_le _⟩ hl.1 rfl (Nat.le_of_ble_eq_true rfl) dL_marks_37 (fun H locs hw => ?_)
      refine lv_iconst (v := 0) hx hb dL_marks_40 (by decide) ?_
      obtain ⟨⟨v14, σ15⟩, k16, h⟩ := it_b h
      refine kU_i (As := [.int v12, .int (0 : Int32)]) (rest := []) (q := 8) hx_E h30 hI hw (c_X6_mark l K ad hI30 v12 (0 : Int32) σ7 k16) mi_X6_mark mv_X6_mark ml_L_81 (by decide) rfl rfl rfl ⟨⟨Nat.le_of_ble_eq_true rfl, Nat.le_of_ble_eq_true rfl⟩, rfl, rfl⟩ ⟨Nat.zero_le _, Nat.zero_le _⟩ hl.1 rfl (Nat.le_of_ble_eq_true rfl) dL_marks_41 (fun H locs hw => ?_)
      obtain ⟨σ17, e_σ17, h⟩ := it_b h
      replace hw := PW_cast (Option.some.inj e_σ17) hw
      refine lv_bipush (v := -2) hx hb dL_marks_44 (by decide) ?_
      refine lv_icmp_ne (tgt := 64) hx hb dL_marks_46 (by decide) (fun c18 => ?_) (fun c18 => ?_)
      · replace h := it_f c18 h
        refine lv_iconst (v := 0) hx hb dL_marks_64 (by decide) ?_
        exact hE hw (congrArg Prod.fst (Option.some.inj h)) (congrArg Prod.snd (Option.some.inj h)) (Or.inl rfl) dL_marks_65
      · replace h := it_t c18 h
        refine lv_aload_n hx hb dL_marks_49 rfl (lv_at hl 1 rfl) ?_
        refine lv_iconst (v := 0) hx hb dL_marks_50 (by decide) ?_
        refine lv_iconst (v := 3) hx hb dL_marks_51 (by decide) ?_
        obtain ⟨⟨v19, σ20⟩, k21, h⟩ := it_b h
        refine kU_i (As := [.int (0 : Int32), .int (3 : Int32)]) (rest := []) (q := 8) hx_E h30 hI hw (c_X6_mark l K ad hI30 (0 : Int32) (3 : Int32) σ17 k21) mi_X6_mark mv_X6_mark ml_L_81 (by decide) rfl rfl rfl ⟨⟨Nat.le_of_ble_eq_true rfl, Nat.le_of_ble_eq_true rfl⟩, rfl, rfl⟩ ⟨Nat.zero_le _, Nat.zero_le _⟩ hl.1 rfl (Nat.le_of_ble_eq_true rfl) dL_marks_52 (fun H locs hw => ?_)
        obtain ⟨σ22, e_σ22, h⟩ := it_b h
        replace hw := PW_cast (Option.some.inj e_σ22) hw
        refine lv_bipush (v := -2) hx hb dL_marks_55 (by decide) ?_
        refine lv_icmp_ne (tgt := 64) hx hb dL_marks_57 (by decide) (fun c23 => ?_) (fun c23 => ?_)
        · replace h := it_f c23 h
          refine lv_iconst (v := 0) hx hb dL_marks_64 (by decide) ?_
          exact hE hw (congrArg Prod.fst (Option.some.inj h)) (congrArg Prod.snd (Option.some.inj h)) (Or.inl rfl) dL_marks_65
        · replace h := it_t c23 h
          refine lv_iconst (v := 1) hx hb dL_marks_60 (by decide) ?_
          refine lv_goto (tgt := 65) hx hb dL_marks_61 (by decide) ?_
          exact hE hw (congrArg Prod.fst (Option.some.inj h)) (congrArg Prod.snd (Option.some.inj h)) (Or.inr rfl) dL_marks_65
set_option maxHeartbeats 4000000 in
set_option maxRecDepth 100000 in
theorem c_L_isTold (l : Launch) (K : vK) (N : Nat) (hN : 31 ≤ N) (ad : Nat → Nat) (hI : adInj N ad) (σ : vSt) {r : Int32} (h : f_L_isTold σ = some r) : MCz l yL_isTold (wsY yL_isTold cL_isTold 5 (some .boolean)) (rmF 4 62) K N ad (cC K ad) [.ref (ad 8), .ref (ad 30)] σ r σ := by
  refine MCz_of (own := RL) (plainFor_of_name (by decide)) hI rfl (Nat.le_of_ble_eq_true rfl) ?_
  intro p e s m args below meth c A Q hx_E hE H locs ls hw hl
  have hx := hx_E.1; have hb := hx_E.2.1; have hown := hx_E.2.2.2.1; have hts := hx_E.2.2.2.2.1
  replace hl : lv_has ls 5 [(0, .ref (ad 8)), (1, .ref (ad 30))] := hl
  have h30 : 30 ≤ N := Nat.le_trans (by decide) hN
  have hI30 : adInj 30 ad := adInj_le h30 hI
  unfold f_L_isTold at h
  refine lv_iconst (v := 0) hx hb dL_isTold_0 (by decide) ?_
  refine lv_istore_n (lv' := [(2, .int (0 : Int32)), (0, .ref (ad 8)), (1, .ref (ad 30))]) hx hb dL_isTold_1 rfl hl (by decide) rfl (fun ls hl => ?_)
  refine lv_iconst (v := 0) hx hb dL_isTold_2 (by decide) ?_
  refine lv_istore_n (lv' := [(3, .int (0 : Int32)), (2, .int (0 : Int32)), (0, .ref (ad 8)), (1, .ref (ad 30))]) hx hb dL_isTold_3 rfl hl (by decide) rfl (fun ls hl => ?_)
  refine lv_iconst (v := 0) hx hb dL_isTold_4 (by decide) ?_
  refine lv_istore (lv' := [(4, .int (0 : Int32)), (3, .int (0 : Int32)), (2, .int (0 : Int32)), (0, .ref (ad 8)), (1, .ref (ad 30))]) hx hb dL_isTold_5 hl (by decide) rfl (fun ls hl => ?_)
  obtain ⟨φ6, h9, h_φ6⟩ := it_b h
  have hJ5 : ∀ (v3 : Int32), .inr v3 = φ6 → ∀ (H : Heap) (locs : List Loc) (ls : Array Slot), PW K N ad (cC K ad) A s.heap σ H locs → lv_has ls 5 [(0, .ref (ad 8)), (1, .ref (ad 30)), (2, .int v3), (3, .int (0 : Int32))] → W p l e (rmF 4 62) s m args below meth c H locs 0 0 Q (F0 m 58 ls []) := by
    intro v3 e9 H locs ls hw hl
    subst e9
    replace h := h_φ6
    refine lv_iconst (v := 0) hx hb dL_isTold_58 (by decide) ?_
    refine lv_istore (lv' := [(4, .int (0 : Int32)), (0, .ref (ad 8)), (1, .ref (ad 30)), (2, .int v3), (3, .int (0 : Int32))]) hx hb dL_isTold_59 hl (by decide) rfl (fun ls hl => ?_)
    obtain ⟨φ25, h9, h_φ25⟩ := it_b h
    have hJ24 : ∀ (v22 : Int32), .inr v22 = φ25 → ∀ (H : Heap) (locs : List Loc) (ls : Array Slot), PW K N ad (cC K ad) A s.heap σ H locs → lv_has ls 5 [(0, .ref (ad 8)), (1, .ref (ad 30)), (2, .int v3), (3, .int v22)] → W p l e (rmF 4 62) s m args below meth c H locs 0 0 Q (F0 m 113 ls []) := by
      intro v22 e9 H locs ls hw hl
      subst e9
      replace h := h_φ25
      refine lv_aload_n hx hb dL_isTold_113 rfl (lv_at hl 0 rfl) ?_
      refine lv_iconst (v := 3) hx hb dL_isTold_114 (by decide) ?_
      obtain ⟨v37, k38, h⟩ := it_b h
      refine kUr_i (As := [.int (3 : Int32)]) (rest := []) (q := 8) hx_E h30 hI hw (c_X6_count l K ad hI30 (3 : Int32) σ k38) mi_X6_count mv_X6_count ml_L_71 (by decide) rfl rfl rfl ⟨⟨Nat.le_of_ble_eq_true rfl, Nat.le_of_ble_eq_true rfl⟩, rfl, rfl⟩ ⟨Nat.zero_le _, Nat.zero_le _⟩ hl.1 rfl (Nat.le_of_ble_eq_true rfl) dL_isTold_115 (fun H locs hw => ?_)
      refine lv_iload_n hx hb dL_isTold_118 rfl (lv_at hl 2 rfl) ?_
      refine lv_icmp_ne (tgt := 176) hx hb dL_isTold_119 (by decide) (fun c39 => ?_) (fun c39 => ?_)
      · replace h := it_f c39 h
        refine lv_iconst (v := 0) hx hb dL_isTold_176 (by decide) ?_
        exact hE hw (Option.some.inj h) rfl (Or.inl rfl) dL_isTold_177
      · replace h := it_t c39 h
        refine lv_aload_n hx hb dL_isTold_122 rfl (lv_at hl 0 rfl) ?_
        refine lv_iconst (v := 4) hx hb dL_isTold_123 (by decide) ?_
        obtain ⟨v40, k41, h⟩ := it_b h
        refine kUr_i (As := [.int (4 : Int32)]) (rest := []) (q := 8) hx_E h30 hI hw (c_X6_count l K ad hI30 (4 : Int32) σ k41) mi_X6_count mv_X6_count ml_L_71 (by decide) rfl rfl rfl ⟨⟨Nat.le_of_ble_eq_true rfl, Nat.le_of_ble_eq_true rfl⟩, rfl, rfl⟩ ⟨Nat.zero_le _, Nat.zero_le _⟩ hl.1 rfl (Nat.le_of_ble_eq_true rfl) dL_isTold_124 (fun H locs hw => ?_)
        refine lv_aload_n hx hb dL_isTold_127 rfl (lv_at hl 1 rfl) ?_
        obtain ⟨v42, k43, h⟩ := it_b h
        refine kT_i (As := [.ref (ad 30)]) (rest := [.int v40]) hx_E hw (c_L_drawn l K N hN ad hI  σ k43) mi_L_drawn sm_L_drawn ml_L_51 rfl ⟨⟨Nat.le_of_ble_eq_true rfl, Nat.le_of_ble_eq_true rfl⟩, rfl, rfl⟩ ⟨Nat.zero_le _, Nat.zero_le _⟩ hl.1 rfl (Nat.le_of_ble_eq_true rfl) dL_isTold_128 (fun H locs hw => ?_)
        refine lv_icmp_ne (tgt := 176) hx hb dL_isTold_131 (by decide) (fun c44 => ?_) (fun c44 => ?_)
        · replace h := it_f c44 h
          refine lv_iconst (v := 0) hx hb dL_isTold_176 (by decide) ?_
          exact hE hw (Option.some.inj h) rfl (Or.inl rfl) dL_isTold_177
        · replace h := it_t c44 h
          refine lv_aload_n hx hb dL_isTold_134 rfl (lv_at hl 0 rfl) ?_
          refine lv_iconst (v := 5) hx hb dL_isTold_135 (by decide) ?_
          obtain ⟨v45, k46, h⟩ := it_b h
          refine kUr_i (As := [.int (5 : Int32)]) (rest := []) (q := 8) hx_E h30 hI hw (c_X6_count l K ad hI30 (5 : Int32) σ k46) mi_X6_count mv_X6_count ml_L_71 (by decide) rfl rfl rfl ⟨⟨Nat.le_of_ble_eq_true rfl, Nat.le_of_ble_eq_true rfl⟩, rfl, rfl⟩ ⟨Nat.zero_le _, Nat.zero_le _⟩ hl.1 rfl (Nat.le_of_ble_eq_true rfl) dL_isTold_136 (fun H locs hw => ?_)
          refine lv_iload_n hx hb dL_isTold_139 rfl (lv_at hl 3 rfl) ?_
          refine lv_icmp_ne (tgt := 176) hx hb dL_isTold_140 (by decide) (fun c47 => ?_) (fun c47 => ?_)
          · replace h := it_f c47 h
            refine lv_iconst (v := 0) hx hb dL_isTold_176 (by decide) ?_
            exact hE hw (Option.some.inj h) rfl (Or.inl rfl) dL_isTold_177
          · replace h := it_t c47 h
            refine lv_aload_n hx hb dL_isTold_143 rfl (lv_at hl 0 rfl) ?_
            refine lv_aload_n hx hb dL_isTold_144 rfl (lv_at hl 1 rfl) ?_
            obtain ⟨v48, k49, h⟩ := it_b h
            refine kT_i (As := [.ref (ad 30)]) (rest := [.ref (ad 8)]) hx_E hw (c_L_edges l K N hN ad hI  σ k49) mi_L_edges sm_L_edges ml_L_19 rfl ⟨⟨Nat.le_of_ble_eq_true rfl, Nat.le_of_ble_eq_true rfl⟩, rfl, rfl⟩ ⟨Nat.zero_le _, Nat.zero_le _⟩ hl.1 rfl (Nat.le_of_ble_eq_true rfl) dL_isTold_145 (fun H locs hw => ?_)
            obtain ⟨v50, k51, h⟩ := it_b h
            refine kUr_i (As := [.int v48]) (rest := []) (q := 8) hx_E h30 hI hw (c_X6_edge l K ad hI30 v48 σ k51) mi_X6_edge mv_X6_edge ml_L_84 (by decide) rfl rfl rfl ⟨⟨Nat.le_of_ble_eq_true rfl, Nat.le_of_ble_eq_true rfl⟩, rfl, rfl⟩ ⟨Nat.zero_le _, Nat.zero_le _⟩ hl.1 rfl (Nat.le_of_ble_eq_true rfl) dL_isTold_148 (fun H locs hw => ?_)
            refine lv_bipush (v := -2) hx hb dL_isTold_151 (by decide) ?_
            refine lv_icmp_ne (tgt := 176) hx hb dL_isTold_153 (by decide) (fun c52 => ?_) (fun c52 => ?_)
            · replace h := it_f c52 h
              refine lv_iconst (v := 0) hx hb dL_isTold_176 (by decide) ?_
              exact hE hw (Option.some.inj h) rfl (Or.inl rfl) dL_isTold_177
            · replace h := it_t c52 h
              refine lv_aload_n hx hb dL_isTold_156 rfl (lv_at hl 0 rfl) ?_
              refine lv_aload_n hx hb dL_isTold_157 rfl (lv_at hl 1 rfl) ?_
              refine lv_iconst (v := 0) hx hb dL_isTold_158 (by decide) ?_
              refine acC_30 hx_E hw hN (by decide) rfl dL_isTold_159 ?_
              refine lv_aload_n hx hb dL_isTold_160 rfl (lv_at hl 1 rfl) ?_
              refine lv_iconst (v := 1) hx hb dL_isTold_161 (by decide) ?_
              refine acC_30 hx_E hw hN (by decide) rfl dL_isTold_162 ?_
              refine lv_imul hx hb dL_isTold_163 ?_
              obtain ⟨v53, k54, h⟩ := it_b h
              refine kUr_i (As := [.int ((gI σ 30 0) * (gI σ 30 1))]) (rest := []) (q := 8) hx_E h30 hI hw (c_X6_countOf l K ad hI30 ((gI σ 30 0) * (gI σ 30 1)) σ k54) mi_X6_countOf mv_X6_countOf ml_L_87 (by decide) rfl rfl rfl ⟨⟨Nat.le_of_ble_eq_true rfl, Nat.le_of_ble_eq_true rfl⟩, rfl, rfl⟩ ⟨Nat.zero_le _, Nat.zero_le _⟩ hl.1 rfl (Nat.le_of_ble_eq_true rfl) dL_isTold_164 (fun H locs hw => ?_)
              refine lv_bipush (v := -2) hx hb dL_isTold_167 (by decide) ?_
              refine lv_icmp_ne (tgt := 176) hx hb dL_isTold_169 (by decide) (fun c55 => ?_) (fun c55 => ?_)
              · replace h := it_f c55 h
                refine lv_iconst (v := 0) hx hb dL_isTold_176 (by decide) ?_
                exact hE hw (Option.some.inj h) rfl (Or.inl rfl) dL_isTold_177
              · replace h := it_t c55 h
                refine lv_iconst (v := 1) hx hb dL_isTold_172 (by decide) ?_
                refine lv_goto (tgt := 177) hx hb dL_isTold_173 (by decide) ?_
                exact hE hw (Option.some.inj h) rfl (Or.inr rfl) dL_isTold_177
    have hL23 : ∀ (n9 : Nat) (v20 : Int32) (v21 : Int32), ∀ (H : Heap) (locs : List Loc) (ls : Array Slot), f_L_isTold_61 σ n9 v20 v21 = some φ25 → PW K N ad (cC K ad) A s.heap σ H locs → lv_has ls 5 [(0, .ref (ad 8)), (1, .ref (ad 30)), (2, .int v3), (3, .int v20), (4, .int v21)] → W p l e (rmF 4 62) s m args below meth c H locs 0 0 Q (F0 m 61 ls []) := by
      intro n9
      induction n9 with
      | zero => intro v20 v21 H locs ls h hw hl; rw [f_L_isTold_61.eq_1] at h; exact it_n h
      | succ n9 ih =>
        intro v20 v21 H locs ls h hw hl
        rw [f_L_isTold_61.eq_2] at h
        refine lv_iload hx hb dL_isTold_61 (lv_at hl 4 rfl) ?_
        refine lv_aload_n hx hb dL_isTold_63 rfl (lv_at hl 1 rfl) ?_
        refine lv_iconst (v := 0) hx hb dL_isTold_64 (by decide) ?_
        refine acC_30 hx_E hw hN (by decide) rfl dL_isTold_65 ?_
        refine lv_aload_n hx hb dL_isTold_66 rfl (lv_at hl 1 rfl) ?_
        refine lv_iconst (v := 1) hx hb dL_isTold_67 (by decide) ?_
        refine acC_30 hx_E hw hN (by decide) rfl dL_isTold_68 ?_
        refine lv_imul hx hb dL_isTold_69 ?_
        refine lv_icmp_ge (tgt := 113) hx hb dL_isTold_70 (by decide) (fun c26 => ?_) (fun c26 => ?_)
        · replace h := it_t c26 h
          have e9 := Option.some.inj h
          subst e9
          exact hJ24 _ rfl  H locs ls hw (lv_sub hl [0, 1, 2, 3] rfl)
        · replace h := it_f c26 h
          refine lv_iload_n hx hb dL_isTold_73 rfl (lv_at hl 3 rfl) ?_
          refine lv_aload_n hx hb dL_isTold_74 rfl (lv_at hl 1 rfl) ?_
          refine lv_iconst (v := 2) hx hb dL_isTold_75 (by decide) ?_
          refine lv_iload hx hb dL_isTold_76 (lv_at hl 4 rfl) ?_
          refine lv_iadd hx hb dL_isTold_78 ?_
          obtain ⟨g27, h⟩ := it_g h
          refine aC_30 hx_E hw hN g27 dL_isTold_79 ?_
          obtain ⟨φ31, h9, h_φ31⟩ := it_b h
          have hJ30 : ∀ (v29 : Int32), v29 = φ31 → (v29 = 0 ∨ v29 = 1) → ∀ (H : Heap) (locs : List Loc) (ls : Array Slot), PW K N ad (cC K ad) A s.heap σ H locs → lv_has ls 5 [(0, .ref (ad 8)), (1, .ref (ad 30)), (2, .int v3), (4, .int v21)] → W p l e (rmF 4 62) s m args below meth c H locs 0 0 Q (F0 m 88 ls [.int v29, .int v20]) := by
            intro v29 e9 z_v29 H locs ls hw hl
            subst e9
            replace h := h_φ31
            refine lv_iadd hx hb dL_isTold_88 ?_
            obtain ⟨v32, e_v32, h⟩ := it_b h
            refine lt_topi (Option.some.inj e_v32) ?_
            refine lv_istore_n (lv' := [(3, .int v32), (0, .ref (ad 8)), (1, .ref (ad 30)), (2, .int v3), (4, .int v21)]) hx hb dL_isTold_89 rfl hl (by decide) rfl (fun ls hl => ?_)
            refine lv_aload_n hx hb dL_isTold_90 rfl (lv_at hl 1 rfl) ?_
            refine lv_iload hx hb dL_isTold_91 (lv_at hl 4 rfl) ?_
            obtain ⟨v33, k34, h⟩ := it_b h
            refine kUr_i (As := [.int v21]) (rest := []) (q := 8) hx_E h30 hI hw (c_X6_countOf l K ad hI30 v21 σ k34) mi_X6_countOf mv_X6_countOf ml_L_87 (by decide) rfl rfl rfl ⟨⟨Nat.le_of_ble_eq_true rfl, Nat.le_of_ble_eq_true rfl⟩, rfl, rfl⟩ ⟨Nat.zero_le _, Nat.zero_le _⟩ hl.1 rfl (Nat.le_of_ble_eq_true rfl) dL_isTold_93 (fun H locs hw => ?_)
            refine lv_aload_n hx hb dL_isTold_96 rfl (lv_at hl 2 rfl) ?_
            refine lv_iconst (v := 2) hx hb dL_isTold_97 (by decide) ?_
            refine lv_iload hx hb dL_isTold_98 (lv_at hl 4 rfl) ?_
            refine lv_iadd hx hb dL_isTold_100 ?_
            obtain ⟨g35, h⟩ := it_g h
            refine aC_30 hx_E hw hN g35 dL_isTold_101 ?_
            refine lv_icmp_eq (tgt := 107) hx hb dL_isTold_102 (by decide) (fun c36 => ?_) (fun c36 => ?_)
            · replace h := it_t c36 h
              refine lv_iinc (v := (v21 + 1)) (lv' := [(4, .int (v21 + 1)), (3, .int v32), (0, .ref (ad 8)), (1, .ref (ad 30)), (2, .int v3)]) hx hb dL_isTold_107 hl (k := 4) rfl rfl (by decide) rfl (fun ls hl => ?_)
              refine lv_goto (tgt := 61) hx hb dL_isTold_110 (by decide) ?_
              exact ih _ _    H locs ls h hw (lv_sub hl [2, 3, 4, 1, 0] rfl)
            · replace h := it_f c36 h
              refine lv_iconst (v := 0) hx hb dL_isTold_105 (by decide) ?_
              have e9 := Option.some.inj h
              subst e9
              replace h := h_φ25
              exact hE hw (Option.some.inj h) rfl (Or.inl rfl) dL_isTold_106
          replace h := h9
          refine lv_if_ge (tgt := 87) hx hb dL_isTold_80 (by decide) (fun c28 => ?_) (fun c28 => ?_)
          · replace h := it_t c28 h
            refine lv_iconst (v := 1) hx hb dL_isTold_87 (by decide) ?_
            have e9 := Option.some.inj h
            subst e9
            exact hJ30 _ rfl (Or.inr rfl) H locs ls hw (lv_sub hl [0, 1, 2, 4] rfl)
          · replace h := it_f c28 h
            refine lv_iconst (v := 0) hx hb dL_isTold_83 (by decide) ?_
            refine lv_goto (tgt := 88) hx hb dL_isTold_84 (by decide) ?_
            have e9 := Option.some.inj h
            subst e9
            exact hJ30 _ rfl (Or.inl rfl) H locs ls hw (lv_sub hl [0, 1, 2, 4] rfl)
    exact hL23 600 _ _   H locs ls h9 hw (lv_sub hl [1, 2, 3, 4, 0] rfl)
  have hL4 : ∀ (n9 : Nat) (v1 : Int32) (v2 : Int32), ∀ (H : Heap) (locs : List Loc) (ls : Array Slot), f_L_isTold_7 σ n9 v1 v2 = some φ6 → PW K N ad (cC K ad) A s.heap σ H locs → lv_has ls 5 [(0, .ref (ad 8)), (1, .ref (ad 30)), (2, .int v1), (3, .int (0 : Int32)), (4, .int v2)] → W p l e (rmF 4 62) s m args below meth c H locs 0 0 Q (F0 m 7 ls []) := by
    intro n9
    induction n9 with
    | zero => intro v1 v2 H locs ls h hw hl; rw [f_L_isTold_7.eq_1] at h; exact it_n h
    | succ n9 ih =>
      intro v1 v2 H locs ls h hw hl
      rw [f_L_isTold_7.eq_2] at h
      refine lv_iload hx hb dL_isTold_7 (lv_at hl 4 rfl) ?_
      refine lv_aload_n hx hb dL_isTold_9 rfl (lv_at hl 1 rfl) ?_
      obtain ⟨v7, k8, h⟩ := it_b h
      refine kT_i (As := [.ref (ad 30)]) (rest := [.int v2]) hx_E hw (c_L_edges l K N hN ad hI  σ k8) mi_L_edges sm_L_edges ml_L_19 rfl ⟨⟨Nat.le_of_ble_eq_true rfl, Nat.le_of_ble_eq_true rfl⟩, rfl, rfl⟩ ⟨Nat.zero_le _, Nat.zero_le _⟩ hl.1 rfl (Nat.le_of_ble_eq_true rfl) dL_isTold_10 (fun H locs hw => ?_)
      refine lv_icmp_ge (tgt := 58) hx hb dL_isTold_13 (by decide) (fun c9 => ?_) (fun c9 => ?_)
      · replace h := it_t c9 h
        have e9 := Option.some.inj h
        subst e9
        exact hJ5 _ rfl  H locs ls hw (lv_sub hl [0, 1, 2, 3] rfl)
      · replace h := it_f c9 h
        refine lv_iload_n hx hb dL_isTold_16 rfl (lv_at hl 2 rfl) ?_
        refine lv_aload_n hx hb dL_isTold_17 rfl (lv_at hl 1 rfl) ?_
        refine lv_bipush (v := 18) hx hb dL_isTold_18 (by decide) ?_
        refine lv_iload hx hb dL_isTold_20 (lv_at hl 4 rfl) ?_
        refine lv_iadd hx hb dL_isTold_22 ?_
        obtain ⟨g10, h⟩ := it_g h
        refine aC_30 hx_E hw hN g10 dL_isTold_23 ?_
        obtain ⟨φ14, h9, h_φ14⟩ := it_b h
        have hJ13 : ∀ (v12 : Int32), v12 = φ14 → (v12 = 0 ∨ v12 = 1) → ∀ (H : Heap) (locs : List Loc) (ls : Array Slot), PW K N ad (cC K ad) A s.heap σ H locs → lv_has ls 5 [(0, .ref (ad 8)), (1, .ref (ad 30)), (3, .int (0 : Int32)), (4, .int v2)] → W p l e (rmF 4 62) s m args below meth c H locs 0 0 Q (F0 m 32 ls [.int v12, .int v1]) := by
          intro v12 e9 z_v12 H locs ls hw hl
          subst e9
          replace h := h_φ14
          refine lv_iadd hx hb dL_isTold_32 ?_
          obtain ⟨v15, e_v15, h⟩ := it_b h
          refine lt_topi (Option.some.inj e_v15) ?_
          refine lv_istore_n (lv' := [(2, .int v15), (0, .ref (ad 8)), (1, .ref (ad 30)), (3, .int (0 : Int32)), (4, .int v2)]) hx hb dL_isTold_33 rfl hl (by decide) rfl (fun ls hl => ?_)
          refine lv_aload_n hx hb dL_isTold_34 rfl (lv_at hl 1 rfl) ?_
          refine lv_iload hx hb dL_isTold_35 (lv_at hl 4 rfl) ?_
          obtain ⟨v16, k17, h⟩ := it_b h
          refine kUr_i (As := [.int v2]) (rest := []) (q := 8) hx_E h30 hI hw (c_X6_edge l K ad hI30 v2 σ k17) mi_X6_edge mv_X6_edge ml_L_84 (by decide) rfl rfl rfl ⟨⟨Nat.le_of_ble_eq_true rfl, Nat.le_of_ble_eq_true rfl⟩, rfl, rfl⟩ ⟨Nat.zero_le _, Nat.zero_le _⟩ hl.1 rfl (Nat.le_of_ble_eq_true rfl) dL_isTold_37 (fun H locs hw => ?_)
          refine lv_aload_n hx hb dL_isTold_40 rfl (lv_at hl 2 rfl) ?_
          refine lv_bipush (v := 18) hx hb dL_isTold_41 (by decide) ?_
          refine lv_iload hx hb dL_isTold_43 (lv_at hl 4 rfl) ?_
          refine lv_iadd hx hb dL_isTold_45 ?_
          obtain ⟨g18, h⟩ := it_g h
          refine aC_30 hx_E hw hN g18 dL_isTold_46 ?_
          refine lv_icmp_eq (tgt := 52) hx hb dL_isTold_47 (by decide) (fun c19 => ?_) (fun c19 => ?_)
          · replace h := it_t c19 h
            refine lv_iinc (v := (v2 + 1)) (lv' := [(4, .int (v2 + 1)), (2, .int v15), (0, .ref (ad 8)), (1, .ref (ad 30)), (3, .int (0 : Int32))]) hx hb dL_isTold_52 hl (k := 4) rfl rfl (by decide) rfl (fun ls hl => ?_)
            refine lv_goto (tgt := 7) hx hb dL_isTold_55 (by decide) ?_
            exact ih _ _    H locs ls h hw (lv_sub hl [2, 3, 1, 4, 0] rfl)
          · replace h := it_f c19 h
            refine lv_iconst (v := 0) hx hb dL_isTold_50 (by decide) ?_
            have e9 := Option.some.inj h
            subst e9
            replace h := h_φ6
            exact hE hw (Option.some.inj h) rfl (Or.inl rfl) dL_isTold_51
        replace h := h9
        refine lv_if_ne (tgt := 31) hx hb dL_isTold_24 (by decide) (fun c11 => ?_) (fun c11 => ?_)
        · replace h := it_f c11 h
          refine lv_iconst (v := 0) hx hb dL_isTold_31 (by decide) ?_
          have e9 := Option.some.inj h
          subst e9
          exact hJ13 _ rfl (Or.inl rfl) H locs ls hw (lv_sub hl [0, 1, 3, 4] rfl)
        · replace h := it_t c11 h
          refine lv_iconst (v := 1) hx hb dL_isTold_27 (by decide) ?_
          refine lv_goto (tgt := 32) hx hb dL_isTold_28 (by decide) ?_
          have e9 := Option.some.inj h
          subst e9
          exact hJ13 _ rfl (Or.inr rfl) H locs ls hw (lv_sub hl [0, 1, 3, 4] rfl)
  exact hL4 600 _ _   H locs ls h9 hw (lv_sub hl [3, 4, 2, 1, 0] rfl)
set_option maxHeartbeats 4000000 in
set_option maxRecDepth 100000 in
theorem c_L_areAt (l : Launch) (K : vK) (N : Nat) (hN : 31 ≤ N) (ad : Nat → Nat) (hI : adInj N ad) (σ : vSt) {r : Int32} (h : f_L_areAt σ = some r) : MCz l yL_areAt (wsY yL_areAt cL_areAt 6 (some .boolean)) (rmF 4 71) K N ad (cC K ad) [.ref (ad 8), .ref (ad 30)] σ r σ := by
  refine MCz_of (own := RL) (plainFor_of_name (by decide)) hI rfl (Nat.le_of_ble_eq_true rfl) ?_
  intro p e s m args below meth c A Q hx_E hE H locs ls hw hl
  have hx := hx_E.1; have hb := hx_E.2.1; have hown := hx_E.2.2.2.1; have hts := hx_E.2.2.2.2.1
  replace hl : lv_has ls 6 [(0, .ref (ad 8)), (1, .ref (ad 30))] := hl
  have h30 : 30 ≤ N := Nat.le_trans (by decide) hN
  have hI30 : adInj 30 ad := adInj_le h30 hI
  unfold f_L_areAt at h
  refine lv_iconst (v := 0) hx hb dL_areAt_0 (by decide) ?_
  refine lv_istore_n (lv' := [(2, .int (0 : Int32)), (0, .ref (ad 8)), (1, .ref (ad 30))]) hx hb dL_areAt_1 rfl hl (by decide) rfl (fun ls hl => ?_)
  obtain ⟨φ4, h9, h_φ4⟩ := it_b h
  have hJ3 : ∀ (_u : Unit), .inr () = φ4 → ∀ (H : Heap) (locs : List Loc) (ls : Array Slot), PW K N ad (cC K ad) A s.heap σ H locs → lv_has ls 6 [(0, .ref (ad 8)), (1, .ref (ad 30))] → W p l e (rmF 4 71) s m args below meth c H locs 0 0 Q (F0 m 146 ls []) := by
    intro _u e9 H locs ls hw hl
    subst e9
    replace h := h_φ4
    refine lv_aload_n hx hb dL_areAt_146 rfl (lv_at hl 0 rfl) ?_
    refine lv_iconst (v := 1) hx hb dL_areAt_147 (by decide) ?_
    refine lv_aload_n hx hb dL_areAt_148 rfl (lv_at hl 1 rfl) ?_
    obtain ⟨v46, k47, h⟩ := it_b h
    refine kT_i (As := [.ref (ad 30)]) (rest := [.int (1 : Int32), .ref (ad 8)]) hx_E hw (c_L_corners l K N hN ad hI  σ k47) mi_L_corners sm_L_corners ml_L_33 rfl ⟨⟨Nat.le_of_ble_eq_true rfl, Nat.le_of_ble_eq_true rfl⟩, rfl, rfl⟩ ⟨Nat.zero_le _, Nat.zero_le _⟩ hl.1 rfl (Nat.le_of_ble_eq_true rfl) dL_areAt_149 (fun H locs hw => ?_)
    refine lv_iconst (v := 0) hx hb dL_areAt_152 (by decide) ?_
    obtain ⟨v48, k49, h⟩ := it_b h
    refine kUr_i (As := [.int (1 : Int32), .int v46, .int (0 : Int32)]) (rest := []) (q := 8) hx_E h30 hI hw (c_X6_edgeAt l K ad hI30 (1 : Int32) v46 (0 : Int32) σ k49) mi_X6_edgeAt mv_X6_edgeAt ml_L_90 (by decide) rfl rfl rfl ⟨⟨Nat.le_of_ble_eq_true rfl, Nat.le_of_ble_eq_true rfl⟩, rfl, rfl⟩ ⟨Nat.zero_le _, Nat.zero_le _⟩ hl.1 rfl (Nat.le_of_ble_eq_true rfl) dL_areAt_153 (fun H locs hw => ?_)
    refine lv_bipush (v := -2) hx hb dL_areAt_156 (by decide) ?_
    refine lv_icmp_ne (tgt := 195) hx hb dL_areAt_158 (by decide) (fun c50 => ?_) (fun c50 => ?_)
    · replace h := it_f c50 h
      refine lv_iconst (v := 0) hx hb dL_areAt_195 (by decide) ?_
      exact hE hw (Option.some.inj h) rfl (Or.inl rfl) dL_areAt_196
    · replace h := it_t c50 h
      refine lv_aload_n hx hb dL_areAt_161 rfl (lv_at hl 0 rfl) ?_
      refine lv_iconst (v := 0) hx hb dL_areAt_162 (by decide) ?_
      refine lv_aload_n hx hb dL_areAt_163 rfl (lv_at hl 1 rfl) ?_
      refine lv_iconst (v := 0) hx hb dL_areAt_164 (by decide) ?_
      refine acC_30 hx_E hw hN (by decide) rfl dL_areAt_165 ?_
      refine lv_aload_n hx hb dL_areAt_166 rfl (lv_at hl 1 rfl) ?_
      refine lv_iconst (v := 1) hx hb dL_areAt_167 (by decide) ?_
      refine acC_30 hx_E hw hN (by decide) rfl dL_areAt_168 ?_
      refine lv_imul hx hb dL_areAt_169 ?_
      refine lv_iconst (v := 0) hx hb dL_areAt_170 (by decide) ?_
      obtain ⟨v51, k52, h⟩ := it_b h
      refine kUr_i (As := [.int (0 : Int32), .int ((gI σ 30 0) * (gI σ 30 1)), .int (0 : Int32)]) (rest := []) (q := 8) hx_E h30 hI hw (c_X6_edgeAt l K ad hI30 (0 : Int32) ((gI σ 30 0) * (gI σ 30 1)) (0 : Int32) σ k52) mi_X6_edgeAt mv_X6_edgeAt ml_L_90 (by decide) rfl rfl rfl ⟨⟨Nat.le_of_ble_eq_true rfl, Nat.le_of_ble_eq_true rfl⟩, rfl, rfl⟩ ⟨Nat.zero_le _, Nat.zero_le _⟩ hl.1 rfl (Nat.le_of_ble_eq_true rfl) dL_areAt_171 (fun H locs hw => ?_)
      refine lv_bipush (v := -2) hx hb dL_areAt_174 (by decide) ?_
      refine lv_icmp_ne (tgt := 195) hx hb dL_areAt_176 (by decide) (fun c53 => ?_) (fun c53 => ?_)
      · replace h := it_f c53 h
        refine lv_iconst (v := 0) hx hb dL_areAt_195 (by decide) ?_
        exact hE hw (Option.some.inj h) rfl (Or.inl rfl) dL_areAt_196
      · replace h := it_t c53 h
        refine lv_aload_n hx hb dL_areAt_179 rfl (lv_at hl 0 rfl) ?_
        refine lv_iconst (v := 1) hx hb dL_areAt_180 (by decide) ?_
        refine lv_iconst (v := 0) hx hb dL_areAt_181 (by decide) ?_
        refine lv_iconst (v := -1) hx hb dL_areAt_182 (by decide) ?_
        obtain ⟨v54, k55, h⟩ := it_b h
        refine kUr_i (As := [.int (1 : Int32), .int (0 : Int32), .int (-1 : Int32)]) (rest := []) (q := 8) hx_E h30 hI hw (c_X6_edgeAt l K ad hI30 (1 : Int32) (0 : Int32) (-1 : Int32) σ k55) mi_X6_edgeAt mv_X6_edgeAt ml_L_90 (by decide) rfl rfl rfl ⟨⟨Nat.le_of_ble_eq_true rfl, Nat.le_of_ble_eq_true rfl⟩, rfl, rfl⟩ ⟨Nat.zero_le _, Nat.zero_le _⟩ hl.1 rfl (Nat.le_of_ble_eq_true rfl) dL_areAt_183 (fun H locs hw => ?_)
        refine lv_bipush (v := -2) hx hb dL_areAt_186 (by decide) ?_
        refine lv_icmp_ne (tgt := 195) hx hb dL_areAt_188 (by decide) (fun c56 => ?_) (fun c56 => ?_)
        · replace h := it_f c56 h
          refine lv_iconst (v := 0) hx hb dL_areAt_195 (by decide) ?_
          exact hE hw (Option.some.inj h) rfl (Or.inl rfl) dL_areAt_196
        · replace h := it_t c56 h
          refine lv_iconst (v := 1) hx hb dL_areAt_191 (by decide) ?_
          refine lv_goto (tgt := 196) hx hb dL_areAt_192 (by decide) ?_
          exact hE hw (Option.some.inj h) rfl (Or.inr rfl) dL_areAt_196
  have hL2 : ∀ (n9 : Nat) (v1 : Int32), ∀ (H : Heap) (locs : List Loc) (ls : Array Slot), f_L_areAt_2 σ n9 v1 = some φ4 → PW K N ad (cC K ad) A s.heap σ H locs → lv_has ls 6 [(0, .ref (ad 8)), (1, .ref (ad 30)), (2, .int v1)] → W p l e (rmF 4 71) s m args below meth c H locs 0 0 Q (F0 m 2 ls []) := by
    intro n9
    induction n9 with
    | zero => intro v1 H locs ls h hw hl; rw [f_L_areAt_2.eq_1] at h; exact it_n h
    | succ n9 ih =>
      intro v1 H locs ls h hw hl
      rw [f_L_areAt_2.eq_2] at h
      refine lv_iload_n hx hb dL_areAt_2 rfl (lv_at hl 2 rfl) ?_
      refine lv_aload_n hx hb dL_areAt_3 rfl (lv_at hl 1 rfl) ?_
      obtain ⟨v5, k6, h⟩ := it_b h
      refine kT_i (As := [.ref (ad 30)]) (rest := [.int v1]) hx_E hw (c_L_corners l K N hN ad hI  σ k6) mi_L_corners sm_L_corners ml_L_33 rfl ⟨⟨Nat.le_of_ble_eq_true rfl, Nat.le_of_ble_eq_true rfl⟩, rfl, rfl⟩ ⟨Nat.zero_le _, Nat.zero_le _⟩ hl.1 rfl (Nat.le_of_ble_eq_true rfl) dL_areAt_4 (fun H locs hw => ?_)
      refine lv_icmp_ge (tgt := 146) hx hb dL_areAt_7 (by decide) (fun c7 => ?_) (fun c7 => ?_)
      · replace h := it_t c7 h
        have e9 := Option.some.inj h
        subst e9
        exact hJ3 () rfl  H locs ls hw (lv_sub hl [0, 1] rfl)
      · replace h := it_f c7 h
        refine lv_iconst (v := 0) hx hb dL_areAt_10 (by decide) ?_
        refine lv_istore_n (lv' := [(3, .int (0 : Int32)), (0, .ref (ad 8)), (1, .ref (ad 30)), (2, .int v1)]) hx hb dL_areAt_11 rfl hl (by decide) rfl (fun ls hl => ?_)
        refine lv_iconst (v := 0) hx hb dL_areAt_12 (by decide) ?_
        refine lv_istore (lv' := [(4, .int (0 : Int32)), (3, .int (0 : Int32)), (0, .ref (ad 8)), (1, .ref (ad 30)), (2, .int v1)]) hx hb dL_areAt_13 hl (by decide) rfl (fun ls hl => ?_)
        refine lv_iconst (v := 0) hx hb dL_areAt_15 (by decide) ?_
        refine lv_istore (lv' := [(5, .int (0 : Int32)), (4, .int (0 : Int32)), (3, .int (0 : Int32)), (0, .ref (ad 8)), (1, .ref (ad 30)), (2, .int v1)]) hx hb dL_areAt_16 hl (by decide) rfl (fun ls hl => ?_)
        obtain ⟨φ16, h9, h_φ16⟩ := it_b h
        have hJ15 : ∀ (v11 : Int32) (v12 : Int32), .inr (v11, v12) = φ16 → ∀ (H : Heap) (locs : List Loc) (ls : Array Slot), PW K N ad (cC K ad) A s.heap σ H locs → lv_has ls 6 [(0, .ref (ad 8)), (1, .ref (ad 30)), (2, .int v1), (3, .int v11), (4, .int v12)] → W p l e (rmF 4 71) s m args below meth c H locs 0 0 Q (F0 m 99 ls []) := by
          intro v11 v12 e9 H locs ls hw hl
          subst e9
          replace h := h_φ16
          refine lv_aload_n hx hb dL_areAt_99 rfl (lv_at hl 0 rfl) ?_
          refine lv_iconst (v := 1) hx hb dL_areAt_100 (by decide) ?_
          refine lv_iload_n hx hb dL_areAt_101 rfl (lv_at hl 2 rfl) ?_
          refine lv_iload hx hb dL_areAt_102 (lv_at hl 4 rfl) ?_
          obtain ⟨v38, k39, h⟩ := it_b h
          refine kUr_i (As := [.int (1 : Int32), .int v1, .int v12]) (rest := []) (q := 8) hx_E h30 hI hw (c_X6_edgeAt l K ad hI30 (1 : Int32) v1 v12 σ k39) mi_X6_edgeAt mv_X6_edgeAt ml_L_90 (by decide) rfl rfl rfl ⟨⟨Nat.le_of_ble_eq_true rfl, Nat.le_of_ble_eq_true rfl⟩, rfl, rfl⟩ ⟨Nat.zero_le _, Nat.zero_le _⟩ hl.1 rfl (Nat.le_of_ble_eq_true rfl) dL_areAt_104 (fun H locs hw => ?_)
          refine lv_iconst (v := -1) hx hb dL_areAt_107 (by decide) ?_
          refine lv_icmp_ne (tgt := 138) hx hb dL_areAt_108 (by decide) (fun c40 => ?_) (fun c40 => ?_)
          · replace h := it_f c40 h
            refine lv_iconst (v := 0) hx hb dL_areAt_138 (by decide) ?_
            have e9 := Option.some.inj h
            subst e9
            replace h := h_φ4
            exact hE hw (Option.some.inj h) rfl (Or.inl rfl) dL_areAt_139
          · replace h := it_t c40 h
            refine lv_iload_n hx hb dL_areAt_111 rfl (lv_at hl 2 rfl) ?_
            refine lv_aload_n hx hb dL_areAt_112 rfl (lv_at hl 1 rfl) ?_
            refine lv_iconst (v := 0) hx hb dL_areAt_113 (by decide) ?_
            refine acC_30 hx_E hw hN (by decide) rfl dL_areAt_114 ?_
            refine lv_aload_n hx hb dL_areAt_115 rfl (lv_at hl 1 rfl) ?_
            refine lv_iconst (v := 1) hx hb dL_areAt_116 (by decide) ?_
            refine acC_30 hx_E hw hN (by decide) rfl dL_areAt_117 ?_
            refine lv_imul hx hb dL_areAt_118 ?_
            refine lv_icmp_ge (tgt := 140) hx hb dL_areAt_119 (by decide) (fun c41 => ?_) (fun c41 => ?_)
            · replace h := it_t c41 h
              refine lv_iinc (v := (v1 + 1)) (lv' := [(2, .int (v1 + 1)), (0, .ref (ad 8)), (1, .ref (ad 30)), (3, .int v11), (4, .int v12)]) hx hb dL_areAt_140 hl (k := 2) rfl rfl (by decide) rfl (fun ls hl => ?_)
              refine lv_goto (tgt := 2) hx hb dL_areAt_143 (by decide) ?_
              exact ih _    H locs ls h hw (lv_sub hl [1, 2, 0] rfl)
            · replace h := it_f c41 h
              refine lv_iload_n hx hb dL_areAt_122 rfl (lv_at hl 3 rfl) ?_
              refine lv_iconst (v := 4) hx hb dL_areAt_123 (by decide) ?_
              refine lv_icmp_ne (tgt := 138) hx hb dL_areAt_124 (by decide) (fun c42 => ?_) (fun c42 => ?_)
              · replace h := it_f c42 h
                refine lv_iconst (v := 0) hx hb dL_areAt_138 (by decide) ?_
                have e9 := Option.some.inj h
                subst e9
                replace h := h_φ4
                exact hE hw (Option.some.inj h) rfl (Or.inl rfl) dL_areAt_139
              · replace h := it_t c42 h
                refine lv_aload_n hx hb dL_areAt_127 rfl (lv_at hl 0 rfl) ?_
                refine lv_iconst (v := 0) hx hb dL_areAt_128 (by decide) ?_
                refine lv_iload_n hx hb dL_areAt_129 rfl (lv_at hl 2 rfl) ?_
                refine lv_iconst (v := 4) hx hb dL_areAt_130 (by decide) ?_
                obtain ⟨v43, k44, h⟩ := it_b h
                refine kUr_i (As := [.int (0 : Int32), .int v1, .int (4 : Int32)]) (rest := []) (q := 8) hx_E h30 hI hw (c_X6_edgeAt l K ad hI30 (0 : Int32) v1 (4 : Int32) σ k44) mi_X6_edgeAt mv_X6_edgeAt ml_L_90 (by decide) rfl rfl rfl ⟨⟨Nat.le_of_ble_eq_true rfl, Nat.le_of_ble_eq_true rfl⟩, rfl, rfl⟩ ⟨Nat.zero_le _, Nat.zero_le _⟩ hl.1 rfl (Nat.le_of_ble_eq_true rfl) dL_areAt_131 (fun H locs hw => ?_)
                refine lv_iconst (v := -1) hx hb dL_areAt_134 (by decide) ?_
                refine lv_icmp_eq (tgt := 140) hx hb dL_areAt_135 (by decide) (fun c45 => ?_) (fun c45 => ?_)
                · replace h := it_t c45 h
                  refine lv_iinc (v := (v1 + 1)) (lv' := [(2, .int (v1 + 1)), (0, .ref (ad 8)), (1, .ref (ad 30)), (3, .int v11), (4, .int v12)]) hx hb dL_areAt_140 hl (k := 2) rfl rfl (by decide) rfl (fun ls hl => ?_)
                  refine lv_goto (tgt := 2) hx hb dL_areAt_143 (by decide) ?_
                  exact ih _    H locs ls h hw (lv_sub hl [1, 2, 0] rfl)
                · replace h := it_f c45 h
                  refine lv_iconst (v := 0) hx hb dL_areAt_138 (by decide) ?_
                  have e9 := Option.some.inj h
                  subst e9
                  replace h := h_φ4
                  exact hE hw (Option.some.inj h) rfl (Or.inl rfl) dL_areAt_139
        have hL14 : ∀ (n9 : Nat) (v8 : Int32) (v9 : Int32) (v10 : Int32), ∀ (H : Heap) (locs : List Loc) (ls : Array Slot), f_L_areAt_18x13 σ v1 n9 v8 v9 v10 = some φ16 → PW K N ad (cC K ad) A s.heap σ H locs → lv_has ls 6 [(0, .ref (ad 8)), (1, .ref (ad 30)), (2, .int v1), (3, .int v8), (4, .int v9), (5, .int v10)] → W p l e (rmF 4 71) s m args below meth c H locs 0 0 Q (F0 m 18 ls []) := by
          intro n9
          induction n9 with
          | zero => intro v8 v9 v10 H locs ls h hw hl; rw [f_L_areAt_18x13.eq_1] at h; exact it_n h
          | succ n9 ih =>
            intro v8 v9 v10 H locs ls h hw hl
            rw [f_L_areAt_18x13.eq_2] at h
            refine lv_iload hx hb dL_areAt_18 (lv_at hl 5 rfl) ?_
            refine lv_aload_n hx hb dL_areAt_20 rfl (lv_at hl 1 rfl) ?_
            obtain ⟨v17, k18, h⟩ := it_b h
            refine kT_i (As := [.ref (ad 30)]) (rest := [.int v10]) hx_E hw (c_L_edges l K N hN ad hI  σ k18) mi_L_edges sm_L_edges ml_L_19 rfl ⟨⟨Nat.le_of_ble_eq_true rfl, Nat.le_of_ble_eq_true rfl⟩, rfl, rfl⟩ ⟨Nat.zero_le _, Nat.zero_le _⟩ hl.1 rfl (Nat.le_of_ble_eq_true rfl) dL_areAt_21 (fun H locs hw => ?_)
            refine lv_icmp_ge (tgt := 99) hx hb dL_areAt_24 (by decide) (fun c19 => ?_) (fun c19 => ?_)
            · replace h := it_t c19 h
              have e9 := Option.some.inj h
              subst e9
              exact hJ15 _ _ rfl  H locs ls hw (lv_sub hl [0, 1, 2, 3, 4] rfl)
            · replace h := it_f c19 h
              refine lv_iload_n hx hb dL_areAt_27 rfl (lv_at hl 2 rfl) ?_
              refine lv_aload_n hx hb dL_areAt_28 rfl (lv_at hl 1 rfl) ?_
              refine lv_iconst (v := 0) hx hb dL_areAt_29 (by decide) ?_
              refine acC_30 hx_E hw hN (by decide) rfl dL_areAt_30 ?_
              refine lv_aload_n hx hb dL_areAt_31 rfl (lv_at hl 1 rfl) ?_
              refine lv_iconst (v := 1) hx hb dL_areAt_32 (by decide) ?_
              refine acC_30 hx_E hw hN (by decide) rfl dL_areAt_33 ?_
              refine lv_imul hx hb dL_areAt_34 ?_
              obtain ⟨φ23, h9, h_φ23⟩ := it_b h
              have hJ22 : ∀ (v21 : Int32), .inr v21 = φ23 → ∀ (H : Heap) (locs : List Loc) (ls : Array Slot), PW K N ad (cC K ad) A s.heap σ H locs → lv_has ls 6 [(0, .ref (ad 8)), (1, .ref (ad 30)), (2, .int v1), (3, .int v21), (4, .int v9), (5, .int v10)] → W p l e (rmF 4 71) s m args below meth c H locs 0 0 Q (F0 m 65 ls []) := by
                intro v21 e9 H locs ls hw hl
                subst e9
                replace h := h_φ23
                refine lv_aload_n hx hb dL_areAt_65 rfl (lv_at hl 1 rfl) ?_
                refine lv_iload hx hb dL_areAt_66 (lv_at hl 5 rfl) ?_
                refine lv_iload_n hx hb dL_areAt_68 rfl (lv_at hl 2 rfl) ?_
                obtain ⟨v31, k32, h⟩ := it_b h
                refine kT_z (As := [.ref (ad 30), .int v10, .int v1]) (rest := []) hx_E hw (c_L_isAt l K N hN ad hI v10 v1 σ k32) mi_L_isAt sm_L_isAt ml_L_26 rfl ⟨⟨Nat.le_of_ble_eq_true rfl, Nat.le_of_ble_eq_true rfl⟩, rfl, rfl⟩ ⟨Nat.zero_le _, Nat.zero_le _⟩ hl.1 rfl (Nat.le_of_ble_eq_true rfl) dL_areAt_69 (fun z33 H locs hw => ?_)
                refine lv_if_eq (tgt := 93) hx hb dL_areAt_72 (by decide) (fun c34 => ?_) (fun c34 => ?_)
                · replace h := it_t c34 h
                  refine lv_iinc (v := (v10 + 1)) (lv' := [(5, .int (v10 + 1)), (0, .ref (ad 8)), (1, .ref (ad 30)), (2, .int v1), (3, .int v21), (4, .int v9)]) hx hb dL_areAt_93 hl (k := 5) rfl rfl (by decide) rfl (fun ls hl => ?_)
                  refine lv_goto (tgt := 18) hx hb dL_areAt_96 (by decide) ?_
                  exact ih _ _ _    H locs ls h hw (lv_sub hl [1, 2, 3, 4, 5, 0] rfl)
                · replace h := it_f c34 h
                  refine lv_aload_n hx hb dL_areAt_75 rfl (lv_at hl 0 rfl) ?_
                  refine lv_iconst (v := 1) hx hb dL_areAt_76 (by decide) ?_
                  refine lv_iload_n hx hb dL_areAt_77 rfl (lv_at hl 2 rfl) ?_
                  refine lv_iload hx hb dL_areAt_78 (lv_at hl 4 rfl) ?_
                  obtain ⟨v35, k36, h⟩ := it_b h
                  refine kUr_i (As := [.int (1 : Int32), .int v1, .int v9]) (rest := []) (q := 8) hx_E h30 hI hw (c_X6_edgeAt l K ad hI30 (1 : Int32) v1 v9 σ k36) mi_X6_edgeAt mv_X6_edgeAt ml_L_90 (by decide) rfl rfl rfl ⟨⟨Nat.le_of_ble_eq_true rfl, Nat.le_of_ble_eq_true rfl⟩, rfl, rfl⟩ ⟨Nat.zero_le _, Nat.zero_le _⟩ hl.1 rfl (Nat.le_of_ble_eq_true rfl) dL_areAt_80 (fun H locs hw => ?_)
                  refine lv_iload hx hb dL_areAt_83 (lv_at hl 5 rfl) ?_
                  refine lv_icmp_eq (tgt := 90) hx hb dL_areAt_85 (by decide) (fun c37 => ?_) (fun c37 => ?_)
                  · replace h := it_t c37 h
                    refine lv_iinc (v := (v9 + 1)) (lv' := [(4, .int (v9 + 1)), (0, .ref (ad 8)), (1, .ref (ad 30)), (2, .int v1), (3, .int v21), (5, .int v10)]) hx hb dL_areAt_90 hl (k := 4) rfl rfl (by decide) rfl (fun ls hl => ?_)
                    refine lv_iinc (v := (v10 + 1)) (lv' := [(5, .int (v10 + 1)), (4, .int (v9 + 1)), (0, .ref (ad 8)), (1, .ref (ad 30)), (2, .int v1), (3, .int v21)]) hx hb dL_areAt_93 hl (k := 5) rfl rfl (by decide) rfl (fun ls hl => ?_)
                    refine lv_goto (tgt := 18) hx hb dL_areAt_96 (by decide) ?_
                    exact ih _ _ _    H locs ls h hw (lv_sub hl [2, 3, 4, 5, 1, 0] rfl)
                  · replace h := it_f c37 h
                    refine lv_iconst (v := 0) hx hb dL_areAt_88 (by decide) ?_
                    have e9 := Option.some.inj h
                    subst e9
                    replace h := h_φ16
                    have e9 := Option.some.inj h
                    subst e9
                    replace h := h_φ4
                    exact hE hw (Option.some.inj h) rfl (Or.inl rfl) dL_areAt_89
              replace h := h9
              refine lv_icmp_ge (tgt := 65) hx hb dL_areAt_35 (by decide) (fun c20 => ?_) (fun c20 => ?_)
              · replace h := it_t c20 h
                have e9 := Option.some.inj h
                subst e9
                exact hJ22 _ rfl  H locs ls hw (lv_sub hl [0, 1, 2, 3, 4, 5] rfl)
              · replace h := it_f c20 h
                refine lv_aload_n hx hb dL_areAt_38 rfl (lv_at hl 1 rfl) ?_
                refine lv_iload hx hb dL_areAt_39 (lv_at hl 5 rfl) ?_
                refine lv_iload_n hx hb dL_areAt_41 rfl (lv_at hl 2 rfl) ?_
                obtain ⟨v24, k25, h⟩ := it_b h
                refine kT_z (As := [.ref (ad 30), .int v10, .int v1]) (rest := []) hx_E hw (c_L_isAround l K N hN ad hI v10 v1 σ k25) mi_L_isAround sm_L_isAround ml_L_22 rfl ⟨⟨Nat.le_of_ble_eq_true rfl, Nat.le_of_ble_eq_true rfl⟩, rfl, rfl⟩ ⟨Nat.zero_le _, Nat.zero_le _⟩ hl.1 rfl (Nat.le_of_ble_eq_true rfl) dL_areAt_42 (fun z26 H locs hw => ?_)
                refine lv_if_eq (tgt := 65) hx hb dL_areAt_45 (by decide) (fun c27 => ?_) (fun c27 => ?_)
                · replace h := it_t c27 h
                  have e9 := Option.some.inj h
                  subst e9
                  exact hJ22 _ rfl  H locs ls hw (lv_sub hl [0, 1, 2, 3, 4, 5] rfl)
                · replace h := it_f c27 h
                  refine lv_aload_n hx hb dL_areAt_48 rfl (lv_at hl 0 rfl) ?_
                  refine lv_iconst (v := 0) hx hb dL_areAt_49 (by decide) ?_
                  refine lv_iload_n hx hb dL_areAt_50 rfl (lv_at hl 2 rfl) ?_
                  refine lv_iload_n hx hb dL_areAt_51 rfl (lv_at hl 3 rfl) ?_
                  obtain ⟨v28, k29, h⟩ := it_b h
                  refine kUr_i (As := [.int (0 : Int32), .int v1, .int v8]) (rest := []) (q := 8) hx_E h30 hI hw (c_X6_edgeAt l K ad hI30 (0 : Int32) v1 v8 σ k29) mi_X6_edgeAt mv_X6_edgeAt ml_L_90 (by decide) rfl rfl rfl ⟨⟨Nat.le_of_ble_eq_true rfl, Nat.le_of_ble_eq_true rfl⟩, rfl, rfl⟩ ⟨Nat.zero_le _, Nat.zero_le _⟩ hl.1 rfl (Nat.le_of_ble_eq_true rfl) dL_areAt_52 (fun H locs hw => ?_)
                  refine lv_iload hx hb dL_areAt_55 (lv_at hl 5 rfl) ?_
                  refine lv_icmp_eq (tgt := 62) hx hb dL_areAt_57 (by decide) (fun c30 => ?_) (fun c30 => ?_)
                  · replace h := it_t c30 h
                    refine lv_iinc (v := (v8 + 1)) (lv' := [(3, .int (v8 + 1)), (0, .ref (ad 8)), (1, .ref (ad 30)), (2, .int v1), (4, .int v9), (5, .int v10)]) hx hb dL_areAt_62 hl (k := 3) rfl rfl (by decide) rfl (fun ls hl => ?_)
                    have e9 := Option.some.inj h
                    subst e9
                    exact hJ22 _ rfl  H locs ls hw (lv_sub hl [1, 2, 3, 0, 4, 5] rfl)
                  · replace h := it_f c30 h
                    refine lv_iconst (v := 0) hx hb dL_areAt_60 (by decide) ?_
                    have e9 := Option.some.inj h
                    subst e9
                    replace h := h_φ23
                    have e9 := Option.some.inj h
                    subst e9
                    replace h := h_φ16
                    have e9 := Option.some.inj h
                    subst e9
                    replace h := h_φ4
                    exact hE hw (Option.some.inj h) rfl (Or.inl rfl) dL_areAt_61
        exact hL14 600 _ _ _   H locs ls h9 hw (lv_sub hl [3, 4, 5, 2, 1, 0] rfl)
  exact hL2 600 _   H locs ls h9 hw (lv_sub hl [1, 2, 0] rfl)
set_option maxHeartbeats 4000000 in
set_option maxRecDepth 100000 in
theorem c_L_borders (l : Launch) (K : vK) (N : Nat) (hN : 31 ≤ N) (ad : Nat → Nat) (hI : adInj N ad) (l2 : Int32) (σ : vSt) {r : Int32} {σ' : vSt} (h : f_L_borders l2 σ = some (r, σ')) : MCz l yL_borders (wsY yL_borders cL_borders 5 (some .boolean)) (rmF 7 149) K N ad (cC K ad) [.ref (ad 8), .ref (ad 30), .int l2] σ r σ' := by
  refine MCz_of (own := RL) (plainFor_of_name (by decide)) hI rfl (Nat.le_of_ble_eq_true rfl) ?_
  intro p e s m args below meth c A Q hx_E hE H locs ls hw hl
  have hx := hx_E.1; have hb := hx_E.2.1; have hown := hx_E.2.2.2.1; have hts := hx_E.2.2.2.2.1
  replace hl : lv_has ls 5 [(0, .ref (ad 8)), (1, .ref (ad 30)), (2, .int l2)] := hl
  have h30 : 30 ≤ N := Nat.le_trans (by decide) hN
  have hI30 : adInj 30 ad := adInj_le h30 hI
  unfold f_L_borders at h
  refine lv_iconst (v := 1) hx hb dL_borders_0 (by decide) ?_
  refine lv_istore_n (lv' := [(3, .int (1 : Int32)), (0, .ref (ad 8)), (1, .ref (ad 30)), (2, .int l2)]) hx hb dL_borders_1 rfl hl (by decide) rfl (fun ls hl => ?_)
  refine lv_iconst (v := 0) hx hb dL_borders_2 (by decide) ?_
  refine lv_istore (lv' := [(4, .int (0 : Int32)), (3, .int (1 : Int32)), (0, .ref (ad 8)), (1, .ref (ad 30)), (2, .int l2)]) hx hb dL_borders_3 hl (by decide) rfl (fun ls hl => ?_)
  obtain ⟨φ8, h9, h_φ8⟩ := it_b h
  have hJ7 : ∀ (v4 : Int32) (σ5 : vSt), (v4, σ5) = φ8 → (v4 = 0 ∨ v4 = 1) → ∀ (H : Heap) (locs : List Loc) (ls : Array Slot), PW K N ad (cC K ad) A s.heap σ5 H locs → lv_has ls 5 [(3, .int v4)] → W p l e (rmF 7 149) s m args below meth c H locs 0 0 Q (F0 m 66 ls []) := by
    intro v4 σ5 e9 z_v4 H locs ls hw hl
    subst e9
    replace h := h_φ8
    refine lv_iload_n hx hb dL_borders_66 rfl (lv_at hl 0 rfl) ?_
    exact hE hw (congrArg Prod.fst (Option.some.inj h)) (congrArg Prod.snd (Option.some.inj h)) z_v4 dL_borders_67
  have hL6 : ∀ (n9 : Nat) (v1 : Int32) (v2 : Int32) (σ3 : vSt), (v1 = 0 ∨ v1 = 1) → ∀ (H : Heap) (locs : List Loc) (ls : Array Slot), f_L_borders_5 l2 n9 v1 v2 σ3 = some φ8 → PW K N ad (cC K ad) A s.heap σ3 H locs → lv_has ls 5 [(0, .ref (ad 8)), (1, .ref (ad 30)), (2, .int l2), (3, .int v1), (4, .int v2)] → W p l e (rmF 7 149) s m args below meth c H locs 0 0 Q (F0 m 5 ls []) := by
    intro n9
    induction n9 with
    | zero => intro v1 v2 σ3 z_v1 H locs ls h hw hl; rw [f_L_borders_5.eq_1] at h; exact it_n h
    | succ n9 ih =>
      intro v1 v2 σ3 z_v1 H locs ls h hw hl
      rw [f_L_borders_5.eq_2] at h
      refine lv_iload hx hb dL_borders_5 (lv_at hl 4 rfl) ?_
      refine lv_aload_n hx hb dL_borders_7 rfl (lv_at hl 1 rfl) ?_
      obtain ⟨v9, k10, h⟩ := it_b h
      refine kT_i (As := [.ref (ad 30)]) (rest := [.int v2]) hx_E hw (c_L_edges l K N hN ad hI  σ3 k10) mi_L_edges sm_L_edges ml_L_19 rfl ⟨⟨Nat.le_of_ble_eq_true rfl, Nat.le_of_ble_eq_true rfl⟩, rfl, rfl⟩ ⟨Nat.zero_le _, Nat.zero_le _⟩ hl.1 rfl (Nat.le_of_ble_eq_true rfl) dL_borders_8 (fun H locs hw => ?_)
      refine lv_icmp_ge (tgt := 66) hx hb dL_borders_11 (by decide) (fun c11 => ?_) (fun c11 => ?_)
      · replace h := it_t c11 h
        have e9 := Option.some.inj h
        subst e9
        exact hJ7 _ _ rfl z_v1 H locs ls hw (lv_sub hl [3] rfl)
      · replace h := it_f c11 h
        refine lv_aload_n hx hb dL_borders_14 rfl (lv_at hl 1 rfl) ?_
        refine lv_iload hx hb dL_borders_15 (lv_at hl 4 rfl) ?_
        refine lv_iload_n hx hb dL_borders_17 rfl (lv_at hl 2 rfl) ?_
        obtain ⟨v12, k13, h⟩ := it_b h
        refine kT_z (As := [.ref (ad 30), .int v2, .int l2]) (rest := []) hx_E hw (c_L_isAround l K N hN ad hI v2 l2 σ3 k13) mi_L_isAround sm_L_isAround ml_L_22 rfl ⟨⟨Nat.le_of_ble_eq_true rfl, Nat.le_of_ble_eq_true rfl⟩, rfl, rfl⟩ ⟨Nat.zero_le _, Nat.zero_le _⟩ hl.1 rfl (Nat.le_of_ble_eq_true rfl) dL_borders_18 (fun z14 H locs hw => ?_)
        refine lv_if_eq (tgt := 60) hx hb dL_borders_21 (by decide) (fun c15 => ?_) (fun c15 => ?_)
        · replace h := it_t c15 h
          refine lv_iinc (v := (v2 + 1)) (lv' := [(4, .int (v2 + 1)), (0, .ref (ad 8)), (1, .ref (ad 30)), (2, .int l2), (3, .int v1)]) hx hb dL_borders_60 hl (k := 4) rfl rfl (by decide) rfl (fun ls hl => ?_)
          refine lv_goto (tgt := 5) hx hb dL_borders_63 (by decide) ?_
          exact ih _ _ _  z_v1 H locs ls h hw (lv_sub hl [1, 2, 3, 4, 0] rfl)
        · replace h := it_f c15 h
          refine lv_iload_n hx hb dL_borders_24 rfl (lv_at hl 3 rfl) ?_
          refine lv_if_eq (tgt := 58) hx hb dL_borders_25 (by decide) (fun c16 => ?_) (fun c16 => ?_)
          · replace h := it_t c16 h
            refine lv_iconst (v := 0) hx hb dL_borders_58 (by decide) ?_
            refine lv_istore_n (lv' := [(3, .int (0 : Int32)), (0, .ref (ad 8)), (1, .ref (ad 30)), (2, .int l2), (4, .int v2)]) hx hb dL_borders_59 rfl hl (by decide) rfl (fun ls hl => ?_)
            refine lv_iinc (v := (v2 + 1)) (lv' := [(4, .int (v2 + 1)), (3, .int (0 : Int32)), (0, .ref (ad 8)), (1, .ref (ad 30)), (2, .int l2)]) hx hb dL_borders_60 hl (k := 4) rfl rfl (by decide) rfl (fun ls hl => ?_)
            refine lv_goto (tgt := 5) hx hb dL_borders_63 (by decide) ?_
            exact ih _ _ _  (Or.inl rfl) H locs ls h hw (lv_sub hl [2, 3, 4, 1, 0] rfl)
          · replace h := it_f c16 h
            refine lv_aload_n hx hb dL_borders_28 rfl (lv_at hl 0 rfl) ?_
            refine lv_aload_n hx hb dL_borders_29 rfl (lv_at hl 1 rfl) ?_
            refine lv_iload hx hb dL_borders_30 (lv_at hl 4 rfl) ?_
            refine lv_aload_n hx hb dL_borders_32 rfl (lv_at hl 1 rfl) ?_
            refine lv_bipush (v := 18) hx hb dL_borders_33 (by decide) ?_
            refine lv_iload hx hb dL_borders_35 (lv_at hl 4 rfl) ?_
            refine lv_iadd hx hb dL_borders_37 ?_
            obtain ⟨g17, h⟩ := it_g h
            refine aC_30 hx_E hw hN g17 dL_borders_38 ?_
            refine lv_iconst (v := 1) hx hb dL_borders_39 (by decide) ?_
            obtain ⟨φ21, h9, h_φ21⟩ := it_b h
            have hJ20 : ∀ (v19 : Int32), v19 = φ21 → ∀ (H : Heap) (locs : List Loc) (ls : Array Slot), PW K N ad (cC K ad) A s.heap σ3 H locs → lv_has ls 5 [(0, .ref (ad 8)), (1, .ref (ad 30)), (2, .int l2), (4, .int v2)] → W p l e (rmF 7 149) s m args below meth c H locs 0 0 Q (F0 m 48 ls [.int v19, .int v2, .ref (ad 30), .ref (ad 8)]) := by
              intro v19 e9 H locs ls hw hl
              subst e9
              replace h := h_φ21
              obtain ⟨⟨v22, σ23⟩, k24, h⟩ := it_b h
              refine kT_z (As := [.ref (ad 8), .ref (ad 30), .int v2, .int v19]) (rest := []) hx_E hw (c_L_marks l K N hN ad hI v2 v19 σ3 k24) mi_L_marks sm_L_marks ml_L_114 rfl ⟨⟨Nat.le_of_ble_eq_true rfl, Nat.le_of_ble_eq_true rfl⟩, rfl, rfl⟩ ⟨Nat.zero_le _, Nat.zero_le _⟩ hl.1 rfl (Nat.le_of_ble_eq_true rfl) dL_borders_48 (fun z25 H locs hw => ?_)
              refine lv_if_eq (tgt := 58) hx hb dL_borders_51 (by decide) (fun c26 => ?_) (fun c26 => ?_)
              · replace h := it_t c26 h
                refine lv_iconst (v := 0) hx hb dL_borders_58 (by decide) ?_
                refine lv_istore_n (lv' := [(3, .int (0 : Int32)), (0, .ref (ad 8)), (1, .ref (ad 30)), (2, .int l2), (4, .int v2)]) hx hb dL_borders_59 rfl hl (by decide) rfl (fun ls hl => ?_)
                refine lv_iinc (v := (v2 + 1)) (lv' := [(4, .int (v2 + 1)), (3, .int (0 : Int32)), (0, .ref (ad 8)), (1, .ref (ad 30)), (2, .int l2)]) hx hb dL_borders_60 hl (k := 4) rfl rfl (by decide) rfl (fun ls hl => ?_)
                refine lv_goto (tgt := 5) hx hb dL_borders_63 (by decide) ?_
                exact ih _ _ _  (Or.inl rfl) H locs ls h hw (lv_sub hl [2, 3, 4, 1, 0] rfl)
              · replace h := it_f c26 h
                refine lv_iconst (v := 1) hx hb dL_borders_54 (by decide) ?_
                refine lv_goto (tgt := 59) hx hb dL_borders_55 (by decide) ?_
                refine lv_istore_n (lv' := [(3, .int (1 : Int32)), (0, .ref (ad 8)), (1, .ref (ad 30)), (2, .int l2), (4, .int v2)]) hx hb dL_borders_59 rfl hl (by decide) rfl (fun ls hl => ?_)
                refine lv_iinc (v := (v2 + 1)) (lv' := [(4, .int (v2 + 1)), (3, .int (1 : Int32)), (0, .ref (ad 8)), (1, .ref (ad 30)), (2, .int l2)]) hx hb dL_borders_60 hl (k := 4) rfl rfl (by decide) rfl (fun ls hl => ?_)
                refine lv_goto (tgt := 5) hx hb dL_borders_63 (by decide) ?_
                exact ih _ _ _  (Or.inr rfl) H locs ls h hw (lv_sub hl [2, 3, 4, 1, 0] rfl)
            replace h := h9
            refine lv_icmp_ne (tgt := 47) hx hb dL_borders_40 (by decide) (fun c18 => ?_) (fun c18 => ?_)
            · replace h := it_f c18 h
              refine lv_iconst (v := 1) hx hb dL_borders_47 (by decide) ?_
              have e9 := Option.some.inj h
              subst e9
              exact hJ20 _ rfl  H locs ls hw (lv_sub hl [0, 1, 2, 4] rfl)
            · replace h := it_t c18 h
              refine lv_iconst (v := 2) hx hb dL_borders_43 (by decide) ?_
              refine lv_goto (tgt := 48) hx hb dL_borders_44 (by decide) ?_
              have e9 := Option.some.inj h
              subst e9
              exact hJ20 _ rfl  H locs ls hw (lv_sub hl [0, 1, 2, 4] rfl)
  exact hL6 600 _ _ _  (Or.inr rfl) H locs ls h9 hw (lv_sub hl [2, 3, 4, 1, 0] rfl)
