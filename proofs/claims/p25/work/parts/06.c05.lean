set_option maxHeartbeats 4000000 in
set_option maxRecDepth 100000 in
theorem c_L_joins (l : Launch) (K : vK) (N : Nat) (hN : 32 ≤ N) (ad : Nat → Nat) (hI : adInj N ad) (σ : vSt) {σ' : vSt} (h : f_L_joins σ = some σ') : MCv l yL_joins (wsY yL_joins cL_joins 8 none) (rmF 4 66) K N ad (cC K ad) [.ref (ad 30), .ref (ad 31)] σ σ' := by
  refine MCv_of (own := RL) (plainFor_of_name (by decide)) hI rfl (Nat.le_of_ble_eq_true rfl) ?_
  intro p e s m args below meth c A Q hx_E hE H locs ls hw hl
  have hx := hx_E.1; have hb := hx_E.2.1; have hown := hx_E.2.2.2.1; have hts := hx_E.2.2.2.2.1
  replace hl : lv_has ls 8 [(0, .ref (ad 30)), (1, .ref (ad 31))] := hl
  have h30 : 30 ≤ N := Nat.le_trans (by decide) hN
  have hI30 : adInj 30 ad := adInj_le h30 hI
  unfold f_L_joins at h
  refine lv_aload_n hx hb dL_joins_0 rfl (lv_at hl 0 rfl) ?_
  obtain ⟨v1, k2, h⟩ := it_b h
  refine kT_i (As := [.ref (ad 30)]) (rest := []) hx_E hw (c_L_edges l K N (Nat.le_of_succ_le hN) ad hI  σ k2) mi_L_edges sm_L_edges ml_L_19 rfl ⟨⟨Nat.le_of_ble_eq_true rfl, Nat.le_of_ble_eq_true rfl⟩, rfl, rfl⟩ ⟨Nat.zero_le _, Nat.zero_le _⟩ hl.1 rfl (Nat.le_of_ble_eq_true rfl) dL_joins_1 (fun H locs hw => ?_)
  refine lv_istore_n (lv' := [(2, .int v1), (0, .ref (ad 30)), (1, .ref (ad 31))]) hx hb dL_joins_4 rfl hl (by decide) rfl (fun ls hl => ?_)
  refine lv_iconst (v := 0) hx hb dL_joins_5 (by decide) ?_
  refine lv_istore_n (lv' := [(3, .int (0 : Int32)), (2, .int v1), (0, .ref (ad 30)), (1, .ref (ad 31))]) hx hb dL_joins_6 rfl hl (by decide) rfl (fun ls hl => ?_)
  obtain ⟨φ8, h9, h_φ8⟩ := it_b h
  have hJ7 : ∀ (σ5 : vSt), σ5 = φ8 → ∀ (H : Heap) (locs : List Loc) (ls : Array Slot), PW K N ad (cC K ad) A s.heap σ5 H locs → lv_has ls 8 [(0, .ref (ad 30)), (1, .ref (ad 31)), (2, .int v1)] → W p l e (rmF 4 66) s m args below meth c H locs 0 0 Q (F0 m 36 ls []) := by
    intro σ5 e9 H locs ls hw hl
    subst e9
    replace h := h_φ8
    refine lv_iconst (v := 1) hx hb dL_joins_36 (by decide) ?_
    refine lv_istore_n (lv' := [(3, .int (1 : Int32)), (0, .ref (ad 30)), (1, .ref (ad 31)), (2, .int v1)]) hx hb dL_joins_37 rfl hl (by decide) rfl (fun ls hl => ?_)
    obtain ⟨φ19, h9, h_φ19⟩ := it_b h
    have hJ18 : ∀ (σ16 : vSt), σ16 = φ19 → ∀ (H : Heap) (locs : List Loc) (ls : Array Slot), PW K N ad (cC K ad) A s.heap σ16 H locs → lv_has ls 8 [] → W p l e (rmF 4 66) s m args below meth c H locs 0 0 Q (F0 m 189 ls []) := by
      intro σ16 e9 H locs ls hw hl
      subst e9
      replace h := h_φ19
      exact hE hw (Option.some.inj h) dL_joins_189
    have hL17 : ∀ (n9 : Nat) (v14 : Int32) (σ15 : vSt), (v14 = 0 ∨ v14 = 1) → ∀ (H : Heap) (locs : List Loc) (ls : Array Slot), f_L_joins_38 v1 n9 v14 σ15 = some φ19 → PW K N ad (cC K ad) A s.heap σ15 H locs → lv_has ls 8 [(0, .ref (ad 30)), (1, .ref (ad 31)), (2, .int v1), (3, .int v14)] → W p l e (rmF 4 66) s m args below meth c H locs 0 0 Q (F0 m 38 ls []) := by
      intro n9
      induction n9 with
      | zero => intro v14 σ15 z_v14 H locs ls h hw hl; rw [f_L_joins_38.eq_1] at h; exact it_n h
      | succ n9 ih =>
        intro v14 σ15 z_v14 H locs ls h hw hl
        rw [f_L_joins_38.eq_2] at h
        refine lv_iload_n hx hb dL_joins_38 rfl (lv_at hl 3 rfl) ?_
        refine lv_if_eq (tgt := 189) hx hb dL_joins_39 (by decide) (fun c20 => ?_) (fun c20 => ?_)
        · replace h := it_t c20 h
          have e9 := Option.some.inj h
          subst e9
          exact hJ18 _ rfl  H locs ls hw (lv_sub hl [] rfl)
        · replace h := it_f c20 h
          refine lv_iconst (v := 0) hx hb dL_joins_42 (by decide) ?_
          refine lv_istore_n (lv' := [(3, .int (0 : Int32)), (0, .ref (ad 30)), (1, .ref (ad 31)), (2, .int v1)]) hx hb dL_joins_43 rfl hl (by decide) rfl (fun ls hl => ?_)
          refine lv_iconst (v := 0) hx hb dL_joins_44 (by decide) ?_
          refine lv_istore (lv' := [(4, .int (0 : Int32)), (3, .int (0 : Int32)), (0, .ref (ad 30)), (1, .ref (ad 31)), (2, .int v1)]) hx hb dL_joins_45 hl (by decide) rfl (fun ls hl => ?_)
          obtain ⟨φ29, h9, h_φ29⟩ := it_b h
          have hJ28 : ∀ (v24 : Int32) (σ25 : vSt), (v24, σ25) = φ29 → (v24 = 0 ∨ v24 = 1) → ∀ (H : Heap) (locs : List Loc) (ls : Array Slot), PW K N ad (cC K ad) A s.heap σ25 H locs → lv_has ls 8 [(0, .ref (ad 30)), (1, .ref (ad 31)), (2, .int v1), (3, .int v24)] → W p l e (rmF 4 66) s m args below meth c H locs 0 0 Q (F0 m 186 ls []) := by
            intro v24 σ25 e9 z_v24 H locs ls hw hl
            subst e9
            replace h := h_φ29
            refine lv_goto (tgt := 38) hx hb dL_joins_186 (by decide) ?_
            exact ih _ _  z_v24 H locs ls h hw (lv_sub hl [0, 1, 2, 3] rfl)
          have hL27 : ∀ (n9 : Nat) (v21 : Int32) (v22 : Int32) (σ23 : vSt), (v21 = 0 ∨ v21 = 1) → ∀ (H : Heap) (locs : List Loc) (ls : Array Slot), f_L_joins_47x26 v1 n9 v21 v22 σ23 = some φ29 → PW K N ad (cC K ad) A s.heap σ23 H locs → lv_has ls 8 [(0, .ref (ad 30)), (1, .ref (ad 31)), (2, .int v1), (3, .int v21), (4, .int v22)] → W p l e (rmF 4 66) s m args below meth c H locs 0 0 Q (F0 m 47 ls []) := by
            intro n9
            induction n9 with
            | zero => intro v21 v22 σ23 z_v21 H locs ls h hw hl; rw [f_L_joins_47x26.eq_1] at h; exact it_n h
            | succ n9 ih =>
              intro v21 v22 σ23 z_v21 H locs ls h hw hl
              rw [f_L_joins_47x26.eq_2] at h
              refine lv_iload hx hb dL_joins_47 (lv_at hl 4 rfl) ?_
              refine lv_iload_n hx hb dL_joins_49 rfl (lv_at hl 2 rfl) ?_
              refine lv_icmp_ge (tgt := 186) hx hb dL_joins_50 (by decide) (fun c30 => ?_) (fun c30 => ?_)
              · replace h := it_t c30 h
                have e9 := Option.some.inj h
                subst e9
                exact hJ28 _ _ rfl z_v21 H locs ls hw (lv_sub hl [0, 1, 2, 3] rfl)
              · replace h := it_f c30 h
                refine lv_iconst (v := 0) hx hb dL_joins_53 (by decide) ?_
                refine lv_istore (lv' := [(5, .int (0 : Int32)), (0, .ref (ad 30)), (1, .ref (ad 31)), (2, .int v1), (3, .int v21), (4, .int v22)]) hx hb dL_joins_54 hl (by decide) rfl (fun ls hl => ?_)
                obtain ⟨φ39, h9, h_φ39⟩ := it_b h
                have hJ38 : ∀ (v34 : Int32) (σ35 : vSt), (v34, σ35) = φ39 → (v34 = 0 ∨ v34 = 1) → ∀ (H : Heap) (locs : List Loc) (ls : Array Slot), PW K N ad (cC K ad) A s.heap σ35 H locs → lv_has ls 8 [(0, .ref (ad 30)), (1, .ref (ad 31)), (2, .int v1), (3, .int v34), (4, .int v22)] → W p l e (rmF 4 66) s m args below meth c H locs 0 0 Q (F0 m 180 ls []) := by
                  intro v34 σ35 e9 z_v34 H locs ls hw hl
                  subst e9
                  replace h := h_φ39
                  refine lv_iinc (v := (v22 + 1)) (lv' := [(4, .int (v22 + 1)), (0, .ref (ad 30)), (1, .ref (ad 31)), (2, .int v1), (3, .int v34)]) hx hb dL_joins_180 hl (k := 4) rfl rfl (by decide) rfl (fun ls hl => ?_)
                  refine lv_goto (tgt := 47) hx hb dL_joins_183 (by decide) ?_
                  exact ih _ _ _  z_v34 H locs ls h hw (lv_sub hl [1, 2, 3, 4, 0] rfl)
                have hL37 : ∀ (n9 : Nat) (v31 : Int32) (v32 : Int32) (σ33 : vSt), (v31 = 0 ∨ v31 = 1) → ∀ (H : Heap) (locs : List Loc) (ls : Array Slot), f_L_joins_56x36 v22 n9 v31 v32 σ33 = some φ39 → PW K N ad (cC K ad) A s.heap σ33 H locs → lv_has ls 8 [(0, .ref (ad 30)), (1, .ref (ad 31)), (2, .int v1), (3, .int v31), (4, .int v22), (5, .int v32)] → W p l e (rmF 4 66) s m args below meth c H locs 0 0 Q (F0 m 56 ls []) := by
                  intro n9
                  induction n9 with
                  | zero => intro v31 v32 σ33 z_v31 H locs ls h hw hl; rw [f_L_joins_56x36.eq_1] at h; exact it_n h
                  | succ n9 ih =>
                    intro v31 v32 σ33 z_v31 H locs ls h hw hl
                    rw [f_L_joins_56x36.eq_2] at h
                    refine lv_iload hx hb dL_joins_56 (lv_at hl 5 rfl) ?_
                    refine lv_iload hx hb dL_joins_58 (lv_at hl 4 rfl) ?_
                    refine lv_icmp_ge (tgt := 180) hx hb dL_joins_60 (by decide) (fun c40 => ?_) (fun c40 => ?_)
                    · replace h := it_t c40 h
                      have e9 := Option.some.inj h
                      subst e9
                      exact hJ38 _ _ rfl z_v31 H locs ls hw (lv_sub hl [0, 1, 2, 3, 4] rfl)
                    · replace h := it_f c40 h
                      refine lv_aload_n hx hb dL_joins_63 rfl (lv_at hl 1 rfl) ?_
                      refine lv_iload hx hb dL_joins_64 (lv_at hl 4 rfl) ?_
                      obtain ⟨g41, h⟩ := it_g h
                      refine aC_31 hx_E hw hN g41 dL_joins_66 ?_
                      obtain ⟨φ45, h9, h_φ45⟩ := it_b h
                      have hJ44 : ∀ (v43 : Int32), v43 = φ45 → (v43 = 0 ∨ v43 = 1) → ∀ (H : Heap) (locs : List Loc) (ls : Array Slot), PW K N ad (cC K ad) A s.heap σ33 H locs → lv_has ls 8 [(0, .ref (ad 30)), (1, .ref (ad 31)), (2, .int v1), (3, .int v31), (4, .int v22), (5, .int v32)] → W p l e (rmF 4 66) s m args below meth c H locs 0 0 Q (F0 m 129 ls [.int v43]) := by
                        intro v43 e9 z_v43 H locs ls hw hl
                        subst e9
                        replace h := h_φ45
                        refine lv_istore (lv' := [(6, .int v43), (0, .ref (ad 30)), (1, .ref (ad 31)), (2, .int v1), (3, .int v31), (4, .int v22), (5, .int v32)]) hx hb dL_joins_129 hl (by decide) rfl (fun ls hl => ?_)
                        refine lv_iload hx hb dL_joins_131 (lv_at hl 0 rfl) ?_
                        refine lv_if_eq (tgt := 174) hx hb dL_joins_133 (by decide) (fun c63 => ?_) (fun c63 => ?_)
                        · replace h := it_t c63 h
                          refine lv_iinc (v := (v32 + 1)) (lv' := [(5, .int (v32 + 1)), (6, .int v43), (0, .ref (ad 30)), (1, .ref (ad 31)), (2, .int v1), (3, .int v31), (4, .int v22)]) hx hb dL_joins_174 hl (k := 6) rfl rfl (by decide) rfl (fun ls hl => ?_)
                          refine lv_goto (tgt := 56) hx hb dL_joins_177 (by decide) ?_
                          exact ih _ _ _  z_v31 H locs ls h hw (lv_sub hl [2, 3, 4, 5, 6, 0] rfl)
                        · replace h := it_f c63 h
                          refine lv_aload_n hx hb dL_joins_136 rfl (lv_at hl 2 rfl) ?_
                          refine lv_iload hx hb dL_joins_137 (lv_at hl 5 rfl) ?_
                          obtain ⟨g64, h⟩ := it_g h
                          refine aC_31 hx_E hw hN g64 dL_joins_139 ?_
                          refine lv_aload_n hx hb dL_joins_140 rfl (lv_at hl 2 rfl) ?_
                          refine lv_iload hx hb dL_joins_141 (lv_at hl 6 rfl) ?_
                          obtain ⟨g65, h⟩ := it_g h
                          refine aC_31 hx_E hw hN g65 dL_joins_143 ?_
                          obtain ⟨φ69, h9, h_φ69⟩ := it_b h
                          have hJ68 : ∀ (v67 : Int32), v67 = φ69 → ∀ (H : Heap) (locs : List Loc) (ls : Array Slot), PW K N ad (cC K ad) A s.heap σ33 H locs → lv_has ls 8 [(0, .ref (ad 30)), (1, .ref (ad 31)), (2, .int v1), (4, .int v22), (5, .int v32)] → W p l e (rmF 4 66) s m args below meth c H locs 0 0 Q (F0 m 158 ls [.int v67]) := by
                            intro v67 e9 H locs ls hw hl
                            subst e9
                            replace h := h_φ69
                            refine lv_istore (lv' := [(7, .int v67), (0, .ref (ad 30)), (1, .ref (ad 31)), (2, .int v1), (4, .int v22), (5, .int v32)]) hx hb dL_joins_158 hl (by decide) rfl (fun ls hl => ?_)
                            refine lv_aload_n hx hb dL_joins_160 rfl (lv_at hl 2 rfl) ?_
                            refine lv_iload hx hb dL_joins_161 (lv_at hl 4 rfl) ?_
                            refine lv_iload hx hb dL_joins_163 (lv_at hl 0 rfl) ?_
                            obtain ⟨g72, h⟩ := it_g h
                            refine sC_31 hx_E hw hN g72 dL_joins_165 (fun H locs hw => ?_)
                            refine lv_aload_n hx hb dL_joins_166 rfl (lv_at hl 2 rfl) ?_
                            refine lv_iload hx hb dL_joins_167 (lv_at hl 5 rfl) ?_
                            refine lv_iload hx hb dL_joins_169 (lv_at hl 0 rfl) ?_
                            obtain ⟨g73, h⟩ := it_g h
                            refine sC_31 hx_E hw hN g73 dL_joins_171 (fun H locs hw => ?_)
                            refine lv_iconst (v := 1) hx hb dL_joins_172 (by decide) ?_
                            refine lv_istore_n (lv' := [(3, .int (1 : Int32)), (7, .int v67), (0, .ref (ad 30)), (1, .ref (ad 31)), (2, .int v1), (4, .int v22), (5, .int v32)]) hx hb dL_joins_173 rfl hl (by decide) rfl (fun ls hl => ?_)
                            refine lv_iinc (v := (v32 + 1)) (lv' := [(5, .int (v32 + 1)), (3, .int (1 : Int32)), (7, .int v67), (0, .ref (ad 30)), (1, .ref (ad 31)), (2, .int v1), (4, .int v22)]) hx hb dL_joins_174 hl (k := 6) rfl rfl (by decide) rfl (fun ls hl => ?_)
                            refine lv_goto (tgt := 56) hx hb dL_joins_177 (by decide) ?_
                            exact ih _ _ _  (Or.inr rfl) H locs ls h hw (lv_sub hl [3, 4, 5, 1, 6, 0] rfl)
                          replace h := h9
                          refine lv_icmp_ge (tgt := 154) hx hb dL_joins_144 (by decide) (fun c66 => ?_) (fun c66 => ?_)
                          · replace h := it_t c66 h
                            refine lv_aload_n hx hb dL_joins_154 rfl (lv_at hl 2 rfl) ?_
                            refine lv_iload hx hb dL_joins_155 (lv_at hl 6 rfl) ?_
                            obtain ⟨g70, h⟩ := it_g h
                            refine aC_31 hx_E hw hN g70 dL_joins_157 ?_
                            have e9 := Option.some.inj h
                            subst e9
                            exact hJ68 _ rfl  H locs ls hw (lv_sub hl [1, 2, 3, 5, 6] rfl)
                          · replace h := it_f c66 h
                            refine lv_aload_n hx hb dL_joins_147 rfl (lv_at hl 2 rfl) ?_
                            refine lv_iload hx hb dL_joins_148 (lv_at hl 5 rfl) ?_
                            obtain ⟨g71, h⟩ := it_g h
                            refine aC_31 hx_E hw hN g71 dL_joins_150 ?_
                            refine lv_goto (tgt := 158) hx hb dL_joins_151 (by decide) ?_
                            have e9 := Option.some.inj h
                            subst e9
                            exact hJ68 _ rfl  H locs ls hw (lv_sub hl [1, 2, 3, 5, 6] rfl)
                      replace h := h9
                      refine lv_if_lt (tgt := 128) hx hb dL_joins_67 (by decide) (fun c42 => ?_) (fun c42 => ?_)
                      · replace h := it_t c42 h
                        refine lv_iconst (v := 0) hx hb dL_joins_128 (by decide) ?_
                        have e9 := Option.some.inj h
                        subst e9
                        exact hJ44 _ rfl (Or.inl rfl) H locs ls hw (lv_sub hl [0, 1, 2, 3, 4, 5] rfl)
                      · replace h := it_f c42 h
                        refine lv_aload_n hx hb dL_joins_70 rfl (lv_at hl 1 rfl) ?_
                        refine lv_iload hx hb dL_joins_71 (lv_at hl 5 rfl) ?_
                        obtain ⟨g46, h⟩ := it_g h
                        refine aC_31 hx_E hw hN g46 dL_joins_73 ?_
                        refine lv_if_lt (tgt := 128) hx hb dL_joins_74 (by decide) (fun c47 => ?_) (fun c47 => ?_)
                        · replace h := it_t c47 h
                          refine lv_iconst (v := 0) hx hb dL_joins_128 (by decide) ?_
                          have e9 := Option.some.inj h
                          subst e9
                          exact hJ44 _ rfl (Or.inl rfl) H locs ls hw (lv_sub hl [0, 1, 2, 3, 4, 5] rfl)
                        · replace h := it_f c47 h
                          refine lv_aload_n hx hb dL_joins_77 rfl (lv_at hl 1 rfl) ?_
                          refine lv_iload hx hb dL_joins_78 (lv_at hl 4 rfl) ?_
                          obtain ⟨g48, h⟩ := it_g h
                          refine aC_31 hx_E hw hN g48 dL_joins_80 ?_
                          refine lv_aload_n hx hb dL_joins_81 rfl (lv_at hl 1 rfl) ?_
                          refine lv_iload hx hb dL_joins_82 (lv_at hl 5 rfl) ?_
                          obtain ⟨g49, h⟩ := it_g h
                          refine aC_31 hx_E hw hN g49 dL_joins_84 ?_
                          refine lv_icmp_eq (tgt := 128) hx hb dL_joins_85 (by decide) (fun c50 => ?_) (fun c50 => ?_)
                          · replace h := it_t c50 h
                            refine lv_iconst (v := 0) hx hb dL_joins_128 (by decide) ?_
                            have e9 := Option.some.inj h
                            subst e9
                            exact hJ44 _ rfl (Or.inl rfl) H locs ls hw (lv_sub hl [0, 1, 2, 3, 4, 5] rfl)
                          · replace h := it_f c50 h
                            refine lv_aload_n hx hb dL_joins_88 rfl (lv_at hl 0 rfl) ?_
                            refine lv_iload hx hb dL_joins_89 (lv_at hl 5 rfl) ?_
                            refine lv_aload_n hx hb dL_joins_91 rfl (lv_at hl 0 rfl) ?_
                            refine lv_iload hx hb dL_joins_92 (lv_at hl 4 rfl) ?_
                            obtain ⟨v51, k52, h⟩ := it_b h
                            refine kT_i (As := [.ref (ad 30), .int v22]) (rest := [.int v32, .ref (ad 30)]) hx_E hw (c_L_ends l K N (Nat.le_of_succ_le hN) ad hI v22 σ33 k52) mi_L_ends sm_L_ends ml_L_15 rfl ⟨⟨Nat.le_of_ble_eq_true rfl, Nat.le_of_ble_eq_true rfl⟩, rfl, rfl⟩ ⟨Nat.zero_le _, Nat.zero_le _⟩ hl.1 rfl (Nat.le_of_ble_eq_true rfl) dL_joins_94 (fun H locs hw => ?_)
                            refine lv_bipush (v := 32) hx hb dL_joins_97 (by decide) ?_
                            refine lv_idiv hx hb dL_joins_99 (by decide) ?_
                            obtain ⟨v53, k54, h⟩ := it_b h
                            refine kT_z (As := [.ref (ad 30), .int v32, .int (v51 / (32 : Int32))]) (rest := []) hx_E hw (c_L_isAt l K N (Nat.le_of_succ_le hN) ad hI v32 (v51 / (32 : Int32)) σ33 k54) mi_L_isAt sm_L_isAt ml_L_26 rfl ⟨⟨Nat.le_of_ble_eq_true rfl, Nat.le_of_ble_eq_true rfl⟩, rfl, rfl⟩ ⟨Nat.zero_le _, Nat.zero_le _⟩ hl.1 rfl (Nat.le_of_ble_eq_true rfl) dL_joins_100 (fun z55 H locs hw => ?_)
                            refine lv_if_ne (tgt := 124) hx hb dL_joins_103 (by decide) (fun c56 => ?_) (fun c56 => ?_)
                            · replace h := it_f c56 h
                              refine lv_iconst (v := 1) hx hb dL_joins_124 (by decide) ?_
                              refine lv_goto (tgt := 129) hx hb dL_joins_125 (by decide) ?_
                              have e9 := Option.some.inj h
                              subst e9
                              exact hJ44 _ rfl (Or.inr rfl) H locs ls hw (lv_sub hl [0, 1, 2, 3, 4, 5] rfl)
                            · replace h := it_t c56 h
                              refine lv_aload_n hx hb dL_joins_106 rfl (lv_at hl 0 rfl) ?_
                              refine lv_iload hx hb dL_joins_107 (lv_at hl 5 rfl) ?_
                              refine lv_aload_n hx hb dL_joins_109 rfl (lv_at hl 0 rfl) ?_
                              refine lv_iload hx hb dL_joins_110 (lv_at hl 4 rfl) ?_
                              obtain ⟨v57, k58, h⟩ := it_b h
                              refine kT_i (As := [.ref (ad 30), .int v22]) (rest := [.int v32, .ref (ad 30)]) hx_E hw (c_L_ends l K N (Nat.le_of_succ_le hN) ad hI v22 σ33 k58) mi_L_ends sm_L_ends ml_L_15 rfl ⟨⟨Nat.le_of_ble_eq_true rfl, Nat.le_of_ble_eq_true rfl⟩, rfl, rfl⟩ ⟨Nat.zero_le _, Nat.zero_le _⟩ hl.1 rfl (Nat.le_of_ble_eq_true rfl) dL_joins_112 (fun H locs hw => ?_)
                              refine lv_bipush (v := 32) hx hb dL_joins_115 (by decide) ?_
                              refine lv_irem hx hb dL_joins_117 (by decide) ?_
                              obtain ⟨v59, k60, h⟩ := it_b h
                              refine kT_z (As := [.ref (ad 30), .int v32, .int (v57 - v57 / (32 : Int32) * (32 : Int32))]) (rest := []) hx_E hw (c_L_isAt l K N (Nat.le_of_succ_le hN) ad hI v32 (v57 - v57 / (32 : Int32) * (32 : Int32)) σ33 k60) mi_L_isAt sm_L_isAt ml_L_26 rfl ⟨⟨Nat.le_of_ble_eq_true rfl, Nat.le_of_ble_eq_true rfl⟩, rfl, rfl⟩ ⟨Nat.zero_le _, Nat.zero_le _⟩ hl.1 rfl (Nat.le_of_ble_eq_true rfl) dL_joins_118 (fun z61 H locs hw => ?_)
                              refine lv_if_eq (tgt := 128) hx hb dL_joins_121 (by decide) (fun c62 => ?_) (fun c62 => ?_)
                              · replace h := it_t c62 h
                                refine lv_iconst (v := 0) hx hb dL_joins_128 (by decide) ?_
                                have e9 := Option.some.inj h
                                subst e9
                                exact hJ44 _ rfl (Or.inl rfl) H locs ls hw (lv_sub hl [0, 1, 2, 3, 4, 5] rfl)
                              · replace h := it_f c62 h
                                refine lv_iconst (v := 1) hx hb dL_joins_124 (by decide) ?_
                                refine lv_goto (tgt := 129) hx hb dL_joins_125 (by decide) ?_
                                have e9 := Option.some.inj h
                                subst e9
                                exact hJ44 _ rfl (Or.inr rfl) H locs ls hw (lv_sub hl [0, 1, 2, 3, 4, 5] rfl)
                exact hL37 600 _ _ _  z_v21 H locs ls h9 hw (lv_sub hl [1, 2, 3, 4, 5, 0] rfl)
          exact hL27 600 _ _ _  (Or.inl rfl) H locs ls h9 hw (lv_sub hl [2, 3, 4, 1, 0] rfl)
    exact hL17 2000 _ _  (Or.inr rfl) H locs ls h9 hw (lv_sub hl [1, 2, 3, 0] rfl)
  have hL6 : ∀ (n9 : Nat) (v3 : Int32) (σ4 : vSt), ∀ (H : Heap) (locs : List Loc) (ls : Array Slot), f_L_joins_7 v1 n9 v3 σ4 = some φ8 → PW K N ad (cC K ad) A s.heap σ4 H locs → lv_has ls 8 [(0, .ref (ad 30)), (1, .ref (ad 31)), (2, .int v1), (3, .int v3)] → W p l e (rmF 4 66) s m args below meth c H locs 0 0 Q (F0 m 7 ls []) := by
    intro n9
    induction n9 with
    | zero => intro v3 σ4 H locs ls h hw hl; rw [f_L_joins_7.eq_1] at h; exact it_n h
    | succ n9 ih =>
      intro v3 σ4 H locs ls h hw hl
      rw [f_L_joins_7.eq_2] at h
      refine lv_iload_n hx hb dL_joins_7 rfl (lv_at hl 3 rfl) ?_
      refine lv_iload_n hx hb dL_joins_8 rfl (lv_at hl 2 rfl) ?_
      refine lv_icmp_ge (tgt := 36) hx hb dL_joins_9 (by decide) (fun c9 => ?_) (fun c9 => ?_)
      · replace h := it_t c9 h
        have e9 := Option.some.inj h
        subst e9
        exact hJ7 _ rfl  H locs ls hw (lv_sub hl [0, 1, 2] rfl)
      · replace h := it_f c9 h
        refine lv_aload_n hx hb dL_joins_12 rfl (lv_at hl 1 rfl) ?_
        refine lv_iload_n hx hb dL_joins_13 rfl (lv_at hl 3 rfl) ?_
        refine lv_aload_n hx hb dL_joins_14 rfl (lv_at hl 0 rfl) ?_
        refine lv_bipush (v := 18) hx hb dL_joins_15 (by decide) ?_
        refine lv_iload_n hx hb dL_joins_17 rfl (lv_at hl 3 rfl) ?_
        refine lv_iadd hx hb dL_joins_18 ?_
        obtain ⟨g10, h⟩ := it_g h
        refine aC_30 hx_E hw (Nat.le_of_succ_le hN) g10 dL_joins_19 ?_
        refine lv_iconst (v := 1) hx hb dL_joins_20 (by decide) ?_
        refine lv_icmp_ne (tgt := 28) hx hb dL_joins_21 (by decide) (fun c11 => ?_) (fun c11 => ?_)
        · replace h := it_f c11 h
          refine lv_iconst (v := -1) hx hb dL_joins_28 (by decide) ?_
          obtain ⟨g12, h⟩ := it_g h
          refine sC_31 hx_E hw hN g12 dL_joins_29 (fun H locs hw => ?_)
          refine lv_iinc (v := (v3 + 1)) (lv' := [(3, .int (v3 + 1)), (0, .ref (ad 30)), (1, .ref (ad 31)), (2, .int v1)]) hx hb dL_joins_30 hl (k := 3) rfl rfl (by decide) rfl (fun ls hl => ?_)
          refine lv_goto (tgt := 7) hx hb dL_joins_33 (by decide) ?_
          exact ih _ _   H locs ls h hw (lv_sub hl [1, 2, 3, 0] rfl)
        · replace h := it_t c11 h
          refine lv_iload_n hx hb dL_joins_24 rfl (lv_at hl 3 rfl) ?_
          refine lv_goto (tgt := 29) hx hb dL_joins_25 (by decide) ?_
          obtain ⟨g13, h⟩ := it_g h
          refine sC_31 hx_E hw hN g13 dL_joins_29 (fun H locs hw => ?_)
          refine lv_iinc (v := (v3 + 1)) (lv' := [(3, .int (v3 + 1)), (0, .ref (ad 30)), (1, .ref (ad 31)), (2, .int v1)]) hx hb dL_joins_30 hl (k := 3) rfl rfl (by decide) rfl (fun ls hl => ?_)
          refine lv_goto (tgt := 7) hx hb dL_joins_33 (by decide) ?_
          exact ih _ _   H locs ls h hw (lv_sub hl [1, 2, 3, 0] rfl)
  exact hL6 600 _ _   H locs ls h9 hw (lv_sub hl [2, 3, 1, 0] rfl)
set_option maxHeartbeats 4000000 in
set_option maxRecDepth 100000 in
theorem c_L_isRing (l : Launch) (K : vK) (N : Nat) (hN : 32 ≤ N) (ad : Nat → Nat) (hI : adInj N ad) (l2 : Int32) (σ : vSt) {r : Int32} (h : f_L_isRing l2 σ = some r) : MCz l yL_isRing (wsY yL_isRing cL_isRing 4 (some .boolean)) (rmF 5 90) K N ad (cC K ad) [.ref (ad 30), .ref (ad 31), .int l2] σ r σ := by
  refine MCz_of (own := RL) (plainFor_of_name (by decide)) hI rfl (Nat.le_of_ble_eq_true rfl) ?_
  intro p e s m args below meth c A Q hx_E hE H locs ls hw hl
  have hx := hx_E.1; have hb := hx_E.2.1; have hown := hx_E.2.2.2.1; have hts := hx_E.2.2.2.2.1
  replace hl : lv_has ls 4 [(0, .ref (ad 30)), (1, .ref (ad 31)), (2, .int l2)] := hl
  have h30 : 30 ≤ N := Nat.le_trans (by decide) hN
  have hI30 : adInj 30 ad := adInj_le h30 hI
  unfold f_L_isRing at h
  refine lv_iconst (v := 0) hx hb dL_isRing_0 (by decide) ?_
  refine lv_istore_n (lv' := [(3, .int (0 : Int32)), (0, .ref (ad 30)), (1, .ref (ad 31)), (2, .int l2)]) hx hb dL_isRing_1 rfl hl (by decide) rfl (fun ls hl => ?_)
  obtain ⟨φ4, h9, h_φ4⟩ := it_b h
  have hJ3 : ∀ (_u : Unit), .inr () = φ4 → ∀ (H : Heap) (locs : List Loc) (ls : Array Slot), PW K N ad (cC K ad) A s.heap σ H locs → lv_has ls 4 [] → W p l e (rmF 5 90) s m args below meth c H locs 0 0 Q (F0 m 59 ls []) := by
    intro _u e9 H locs ls hw hl
    subst e9
    replace h := h_φ4
    refine lv_iconst (v := 1) hx hb dL_isRing_59 (by decide) ?_
    exact hE hw (Option.some.inj h) rfl (Or.inr rfl) dL_isRing_60
  have hL2 : ∀ (n9 : Nat) (v1 : Int32), ∀ (H : Heap) (locs : List Loc) (ls : Array Slot), f_L_isRing_2 l2 σ n9 v1 = some φ4 → PW K N ad (cC K ad) A s.heap σ H locs → lv_has ls 4 [(0, .ref (ad 30)), (1, .ref (ad 31)), (2, .int l2), (3, .int v1)] → W p l e (rmF 5 90) s m args below meth c H locs 0 0 Q (F0 m 2 ls []) := by
    intro n9
    induction n9 with
    | zero => intro v1 H locs ls h hw hl; rw [f_L_isRing_2.eq_1] at h; exact it_n h
    | succ n9 ih =>
      intro v1 H locs ls h hw hl
      rw [f_L_isRing_2.eq_2] at h
      refine lv_iload_n hx hb dL_isRing_2 rfl (lv_at hl 3 rfl) ?_
      refine lv_aload_n hx hb dL_isRing_3 rfl (lv_at hl 0 rfl) ?_
      obtain ⟨v5, k6, h⟩ := it_b h
      refine kT_i (As := [.ref (ad 30)]) (rest := [.int v1]) hx_E hw (c_L_edges l K N (Nat.le_of_succ_le hN) ad hI  σ k6) mi_L_edges sm_L_edges ml_L_19 rfl ⟨⟨Nat.le_of_ble_eq_true rfl, Nat.le_of_ble_eq_true rfl⟩, rfl, rfl⟩ ⟨Nat.zero_le _, Nat.zero_le _⟩ hl.1 rfl (Nat.le_of_ble_eq_true rfl) dL_isRing_4 (fun H locs hw => ?_)
      refine lv_icmp_ge (tgt := 59) hx hb dL_isRing_7 (by decide) (fun c7 => ?_) (fun c7 => ?_)
      · replace h := it_t c7 h
        have e9 := Option.some.inj h
        subst e9
        exact hJ3 () rfl  H locs ls hw (lv_sub hl [] rfl)
      · replace h := it_f c7 h
        refine lv_aload_n hx hb dL_isRing_10 rfl (lv_at hl 1 rfl) ?_
        refine lv_iload_n hx hb dL_isRing_11 rfl (lv_at hl 3 rfl) ?_
        obtain ⟨g8, h⟩ := it_g h
        refine aC_31 hx_E hw hN g8 dL_isRing_12 ?_
        refine lv_iload_n hx hb dL_isRing_13 rfl (lv_at hl 2 rfl) ?_
        refine lv_icmp_ne (tgt := 53) hx hb dL_isRing_14 (by decide) (fun c9 => ?_) (fun c9 => ?_)
        · replace h := it_f c9 h
          refine lv_iinc (v := (v1 + 1)) (lv' := [(3, .int (v1 + 1)), (0, .ref (ad 30)), (1, .ref (ad 31)), (2, .int l2)]) hx hb dL_isRing_53 hl (k := 3) rfl rfl (by decide) rfl (fun ls hl => ?_)
          refine lv_goto (tgt := 2) hx hb dL_isRing_56 (by decide) ?_
          exact ih _    H locs ls h hw (lv_sub hl [1, 2, 3, 0] rfl)
        · replace h := it_t c9 h
          refine lv_aload_n hx hb dL_isRing_17 rfl (lv_at hl 0 rfl) ?_
          refine lv_aload_n hx hb dL_isRing_18 rfl (lv_at hl 0 rfl) ?_
          refine lv_iload_n hx hb dL_isRing_19 rfl (lv_at hl 3 rfl) ?_
          obtain ⟨v10, k11, h⟩ := it_b h
          refine kT_i (As := [.ref (ad 30), .int v1]) (rest := [.ref (ad 30)]) hx_E hw (c_L_ends l K N (Nat.le_of_succ_le hN) ad hI v1 σ k11) mi_L_ends sm_L_ends ml_L_15 rfl ⟨⟨Nat.le_of_ble_eq_true rfl, Nat.le_of_ble_eq_true rfl⟩, rfl, rfl⟩ ⟨Nat.zero_le _, Nat.zero_le _⟩ hl.1 rfl (Nat.le_of_ble_eq_true rfl) dL_isRing_20 (fun H locs hw => ?_)
          refine lv_bipush (v := 32) hx hb dL_isRing_23 (by decide) ?_
          refine lv_idiv hx hb dL_isRing_25 (by decide) ?_
          refine lv_iconst (v := 1) hx hb dL_isRing_26 (by decide) ?_
          obtain ⟨v12, k13, h⟩ := it_b h
          refine kT_i (As := [.ref (ad 30), .int (v10 / (32 : Int32)), .int (1 : Int32)]) (rest := []) hx_E hw (c_L_at l K N (Nat.le_of_succ_le hN) ad hI (v10 / (32 : Int32)) (1 : Int32) σ k13) mi_L_at sm_L_at ml_L_36 rfl ⟨⟨Nat.le_of_ble_eq_true rfl, Nat.le_of_ble_eq_true rfl⟩, rfl, rfl⟩ ⟨Nat.zero_le _, Nat.zero_le _⟩ hl.1 rfl (Nat.le_of_ble_eq_true rfl) dL_isRing_27 (fun H locs hw => ?_)
          refine lv_iconst (v := 2) hx hb dL_isRing_30 (by decide) ?_
          refine lv_icmp_ne (tgt := 51) hx hb dL_isRing_31 (by decide) (fun c14 => ?_) (fun c14 => ?_)
          · replace h := it_f c14 h
            refine lv_iconst (v := 0) hx hb dL_isRing_51 (by decide) ?_
            have e9 := Option.some.inj h
            subst e9
            replace h := h_φ4
            exact hE hw (Option.some.inj h) rfl (Or.inl rfl) dL_isRing_52
          · replace h := it_t c14 h
            refine lv_aload_n hx hb dL_isRing_34 rfl (lv_at hl 0 rfl) ?_
            refine lv_aload_n hx hb dL_isRing_35 rfl (lv_at hl 0 rfl) ?_
            refine lv_iload_n hx hb dL_isRing_36 rfl (lv_at hl 3 rfl) ?_
            obtain ⟨v15, k16, h⟩ := it_b h
            refine kT_i (As := [.ref (ad 30), .int v1]) (rest := [.ref (ad 30)]) hx_E hw (c_L_ends l K N (Nat.le_of_succ_le hN) ad hI v1 σ k16) mi_L_ends sm_L_ends ml_L_15 rfl ⟨⟨Nat.le_of_ble_eq_true rfl, Nat.le_of_ble_eq_true rfl⟩, rfl, rfl⟩ ⟨Nat.zero_le _, Nat.zero_le _⟩ hl.1 rfl (Nat.le_of_ble_eq_true rfl) dL_isRing_37 (fun H locs hw => ?_)
            refine lv_bipush (v := 32) hx hb dL_isRing_40 (by decide) ?_
            refine lv_irem hx hb dL_isRing_42 (by decide) ?_
            refine lv_iconst (v := 1) hx hb dL_isRing_43 (by decide) ?_
            obtain ⟨v17, k18, h⟩ := it_b h
            refine kT_i (As := [.ref (ad 30), .int (v15 - v15 / (32 : Int32) * (32 : Int32)), .int (1 : Int32)]) (rest := []) hx_E hw (c_L_at l K N (Nat.le_of_succ_le hN) ad hI (v15 - v15 / (32 : Int32) * (32 : Int32)) (1 : Int32) σ k18) mi_L_at sm_L_at ml_L_36 rfl ⟨⟨Nat.le_of_ble_eq_true rfl, Nat.le_of_ble_eq_true rfl⟩, rfl, rfl⟩ ⟨Nat.zero_le _, Nat.zero_le _⟩ hl.1 rfl (Nat.le_of_ble_eq_true rfl) dL_isRing_44 (fun H locs hw => ?_)
            refine lv_iconst (v := 2) hx hb dL_isRing_47 (by decide) ?_
            refine lv_icmp_eq (tgt := 53) hx hb dL_isRing_48 (by decide) (fun c19 => ?_) (fun c19 => ?_)
            · replace h := it_t c19 h
              refine lv_iinc (v := (v1 + 1)) (lv' := [(3, .int (v1 + 1)), (0, .ref (ad 30)), (1, .ref (ad 31)), (2, .int l2)]) hx hb dL_isRing_53 hl (k := 3) rfl rfl (by decide) rfl (fun ls hl => ?_)
              refine lv_goto (tgt := 2) hx hb dL_isRing_56 (by decide) ?_
              exact ih _    H locs ls h hw (lv_sub hl [1, 2, 3, 0] rfl)
            · replace h := it_f c19 h
              refine lv_iconst (v := 0) hx hb dL_isRing_51 (by decide) ?_
              have e9 := Option.some.inj h
              subst e9
              replace h := h_φ4
              exact hE hw (Option.some.inj h) rfl (Or.inl rfl) dL_isRing_52
  exact hL2 600 _   H locs ls h9 hw (lv_sub hl [1, 2, 3, 0] rfl)
set_option maxHeartbeats 4000000 in
set_option maxRecDepth 100000 in
theorem c_L_size (l : Launch) (K : vK) (N : Nat) (hN : 32 ≤ N) (ad : Nat → Nat) (hI : adInj N ad) (l2 : Int32) (σ : vSt) {r : Int32} (h : f_L_size l2 σ = some r) : MCi l yL_size (wsY yL_size cL_size 5 (some .int)) (rmF 3 40) K N ad (cC K ad) [.ref (ad 30), .ref (ad 31), .int l2] σ r σ := by
  refine MCi_of (own := RL) (plainFor_of_name (by decide)) hI rfl (Nat.le_of_ble_eq_true rfl) ?_
  intro p e s m args below meth c A Q hx_E hE H locs ls hw hl
  have hx := hx_E.1; have hb := hx_E.2.1; have hown := hx_E.2.2.2.1; have hts := hx_E.2.2.2.2.1
  replace hl : lv_has ls 5 [(0, .ref (ad 30)), (1, .ref (ad 31)), (2, .int l2)] := hl
  have h30 : 30 ≤ N := Nat.le_trans (by decide) hN
  have hI30 : adInj 30 ad := adInj_le h30 hI
  unfold f_L_size at h
  refine lv_iconst (v := 0) hx hb dL_size_0 (by decide) ?_
  refine lv_istore_n (lv' := [(3, .int (0 : Int32)), (0, .ref (ad 30)), (1, .ref (ad 31)), (2, .int l2)]) hx hb dL_size_1 rfl hl (by decide) rfl (fun ls hl => ?_)
  refine lv_iconst (v := 0) hx hb dL_size_2 (by decide) ?_
  refine lv_istore (lv' := [(4, .int (0 : Int32)), (3, .int (0 : Int32)), (0, .ref (ad 30)), (1, .ref (ad 31)), (2, .int l2)]) hx hb dL_size_3 hl (by decide) rfl (fun ls hl => ?_)
  obtain ⟨φ6, h9, h_φ6⟩ := it_b h
  have hJ5 : ∀ (v3 : Int32), v3 = φ6 → ∀ (H : Heap) (locs : List Loc) (ls : Array Slot), PW K N ad (cC K ad) A s.heap σ H locs → lv_has ls 5 [(3, .int v3)] → W p l e (rmF 3 40) s m args below meth c H locs 0 0 Q (F0 m 36 ls []) := by
    intro v3 e9 H locs ls hw hl
    subst e9
    replace h := h_φ6
    refine lv_iload_n hx hb dL_size_36 rfl (lv_at hl 0 rfl) ?_
    exact hE hw (Option.some.inj h) rfl dL_size_37
  have hL4 : ∀ (n9 : Nat) (v1 : Int32) (v2 : Int32), ∀ (H : Heap) (locs : List Loc) (ls : Array Slot), f_L_size_5 l2 σ n9 v1 v2 = some φ6 → PW K N ad (cC K ad) A s.heap σ H locs → lv_has ls 5 [(0, .ref (ad 30)), (1, .ref (ad 31)), (2, .int l2), (3, .int v1), (4, .int v2)] → W p l e (rmF 3 40) s m args below meth c H locs 0 0 Q (F0 m 5 ls []) := by
    intro n9
    induction n9 with
    | zero => intro v1 v2 H locs ls h hw hl; rw [f_L_size_5.eq_1] at h; exact it_n h
    | succ n9 ih =>
      intro v1 v2 H locs ls h hw hl
      rw [f_L_size_5.eq_2] at h
      refine lv_iload hx hb dL_size_5 (lv_at hl 4 rfl) ?_
      refine lv_aload_n hx hb dL_size_7 rfl (lv_at hl 0 rfl) ?_
      obtain ⟨v7, k8, h⟩ := it_b h
      refine kT_i (As := [.ref (ad 30)]) (rest := [.int v2]) hx_E hw (c_L_edges l K N (Nat.le_of_succ_le hN) ad hI  σ k8) mi_L_edges sm_L_edges ml_L_19 rfl ⟨⟨Nat.le_of_ble_eq_true rfl, Nat.le_of_ble_eq_true rfl⟩, rfl, rfl⟩ ⟨Nat.zero_le _, Nat.zero_le _⟩ hl.1 rfl (Nat.le_of_ble_eq_true rfl) dL_size_8 (fun H locs hw => ?_)
      refine lv_icmp_ge (tgt := 36) hx hb dL_size_11 (by decide) (fun c9 => ?_) (fun c9 => ?_)
      · replace h := it_t c9 h
        have e9 := Option.some.inj h
        subst e9
        exact hJ5 _ rfl  H locs ls hw (lv_sub hl [3] rfl)
      · replace h := it_f c9 h
        refine lv_iload_n hx hb dL_size_14 rfl (lv_at hl 3 rfl) ?_
        refine lv_aload_n hx hb dL_size_15 rfl (lv_at hl 1 rfl) ?_
        refine lv_iload hx hb dL_size_16 (lv_at hl 4 rfl) ?_
        obtain ⟨g10, h⟩ := it_g h
        refine aC_31 hx_E hw hN g10 dL_size_18 ?_
        refine lv_iload_n hx hb dL_size_19 rfl (lv_at hl 2 rfl) ?_
        obtain ⟨φ14, h9, h_φ14⟩ := it_b h
        have hJ13 : ∀ (v12 : Int32), v12 = φ14 → (v12 = 0 ∨ v12 = 1) → ∀ (H : Heap) (locs : List Loc) (ls : Array Slot), PW K N ad (cC K ad) A s.heap σ H locs → lv_has ls 5 [(0, .ref (ad 30)), (1, .ref (ad 31)), (2, .int l2), (4, .int v2)] → W p l e (rmF 3 40) s m args below meth c H locs 0 0 Q (F0 m 28 ls [.int v12, .int v1]) := by
          intro v12 e9 z_v12 H locs ls hw hl
          subst e9
          replace h := h_φ14
          refine lv_iadd hx hb dL_size_28 ?_
          obtain ⟨v15, e_v15, h⟩ := it_b h
          refine lt_topi (Option.some.inj e_v15) ?_
          refine lv_istore_n (lv' := [(3, .int v15), (0, .ref (ad 30)), (1, .ref (ad 31)), (2, .int l2), (4, .int v2)]) hx hb dL_size_29 rfl hl (by decide) rfl (fun ls hl => ?_)
          refine lv_iinc (v := (v2 + 1)) (lv' := [(4, .int (v2 + 1)), (3, .int v15), (0, .ref (ad 30)), (1, .ref (ad 31)), (2, .int l2)]) hx hb dL_size_30 hl (k := 4) rfl rfl (by decide) rfl (fun ls hl => ?_)
          refine lv_goto (tgt := 5) hx hb dL_size_33 (by decide) ?_
          exact ih _ _    H locs ls h hw (lv_sub hl [2, 3, 4, 1, 0] rfl)
        replace h := h9
        refine lv_icmp_ne (tgt := 27) hx hb dL_size_20 (by decide) (fun c11 => ?_) (fun c11 => ?_)
        · replace h := it_f c11 h
          refine lv_iconst (v := 0) hx hb dL_size_27 (by decide) ?_
          have e9 := Option.some.inj h
          subst e9
          exact hJ13 _ rfl (Or.inl rfl) H locs ls hw (lv_sub hl [0, 1, 2, 4] rfl)
        · replace h := it_t c11 h
          refine lv_iconst (v := 1) hx hb dL_size_23 (by decide) ?_
          refine lv_goto (tgt := 28) hx hb dL_size_24 (by decide) ?_
          have e9 := Option.some.inj h
          subst e9
          exact hJ13 _ rfl (Or.inr rfl) H locs ls hw (lv_sub hl [0, 1, 2, 4] rfl)
  exact hL4 600 _ _   H locs ls h9 hw (lv_sub hl [2, 3, 4, 1, 0] rfl)
set_option maxHeartbeats 4000000 in
set_option maxRecDepth 100000 in
theorem c_L_isMet (l : Launch) (K : vK) (N : Nat) (hN : 31 ≤ N) (ad : Nat → Nat) (hI : adInj N ad) (σ : vSt) {r : Int32} (h : f_L_isMet σ = some r) : MCz l yL_isMet (wsY yL_isMet cL_isMet 2 (some .boolean)) (rmF 5 95) K N ad (cC K ad) [.ref (ad 30)] σ r σ := by
  refine MCz_of (own := RL) (plainFor_of_name (by decide)) hI rfl (Nat.le_of_ble_eq_true rfl) ?_
  intro p e s m args below meth c A Q hx_E hE H locs ls hw hl
  have hx := hx_E.1; have hb := hx_E.2.1; have hown := hx_E.2.2.2.1; have hts := hx_E.2.2.2.2.1
  replace hl : lv_has ls 2 [(0, .ref (ad 30))] := hl
  have h30 : 30 ≤ N := Nat.le_trans (by decide) hN
  have hI30 : adInj 30 ad := adInj_le h30 hI
  unfold f_L_isMet at h
  refine lv_iconst (v := 0) hx hb dL_isMet_0 (by decide) ?_
  refine lv_istore_n (lv' := [(1, .int (0 : Int32)), (0, .ref (ad 30))]) hx hb dL_isMet_1 rfl hl (by decide) rfl (fun ls hl => ?_)
  obtain ⟨φ4, h9, h_φ4⟩ := it_b h
  have hJ3 : ∀ (_u : Unit), .inr () = φ4 → ∀ (H : Heap) (locs : List Loc) (ls : Array Slot), PW K N ad (cC K ad) A s.heap σ H locs → lv_has ls 2 [] → W p l e (rmF 5 95) s m args below meth c H locs 0 0 Q (F0 m 43 ls []) := by
    intro _u e9 H locs ls hw hl
    subst e9
    replace h := h_φ4
    refine lv_iconst (v := 1) hx hb dL_isMet_43 (by decide) ?_
    exact hE hw (Option.some.inj h) rfl (Or.inr rfl) dL_isMet_44
  have hL2 : ∀ (n9 : Nat) (v1 : Int32), ∀ (H : Heap) (locs : List Loc) (ls : Array Slot), f_L_isMet_2 σ n9 v1 = some φ4 → PW K N ad (cC K ad) A s.heap σ H locs → lv_has ls 2 [(0, .ref (ad 30)), (1, .int v1)] → W p l e (rmF 5 95) s m args below meth c H locs 0 0 Q (F0 m 2 ls []) := by
    intro n9
    induction n9 with
    | zero => intro v1 H locs ls h hw hl; rw [f_L_isMet_2.eq_1] at h; exact it_n h
    | succ n9 ih =>
      intro v1 H locs ls h hw hl
      rw [f_L_isMet_2.eq_2] at h
      refine lv_iload_n hx hb dL_isMet_2 rfl (lv_at hl 1 rfl) ?_
      refine lv_aload_n hx hb dL_isMet_3 rfl (lv_at hl 0 rfl) ?_
      refine lv_iconst (v := 0) hx hb dL_isMet_4 (by decide) ?_
      refine acC_30 hx_E hw hN (by decide) rfl dL_isMet_5 ?_
      refine lv_aload_n hx hb dL_isMet_6 rfl (lv_at hl 0 rfl) ?_
      refine lv_iconst (v := 1) hx hb dL_isMet_7 (by decide) ?_
      refine acC_30 hx_E hw hN (by decide) rfl dL_isMet_8 ?_
      refine lv_imul hx hb dL_isMet_9 ?_
      refine lv_icmp_ge (tgt := 43) hx hb dL_isMet_10 (by decide) (fun c5 => ?_) (fun c5 => ?_)
      · replace h := it_t c5 h
        have e9 := Option.some.inj h
        subst e9
        exact hJ3 () rfl  H locs ls hw (lv_sub hl [] rfl)
      · replace h := it_f c5 h
        refine lv_aload_n hx hb dL_isMet_13 rfl (lv_at hl 0 rfl) ?_
        refine lv_iconst (v := 2) hx hb dL_isMet_14 (by decide) ?_
        refine lv_iload_n hx hb dL_isMet_15 rfl (lv_at hl 1 rfl) ?_
        refine lv_iadd hx hb dL_isMet_16 ?_
        obtain ⟨g6, h⟩ := it_g h
        refine aC_30 hx_E hw hN g6 dL_isMet_17 ?_
        refine lv_if_lt (tgt := 37) hx hb dL_isMet_18 (by decide) (fun c7 => ?_) (fun c7 => ?_)
        · replace h := it_t c7 h
          refine lv_iinc (v := (v1 + 1)) (lv' := [(1, .int (v1 + 1)), (0, .ref (ad 30))]) hx hb dL_isMet_37 hl (k := 1) rfl rfl (by decide) rfl (fun ls hl => ?_)
          refine lv_goto (tgt := 2) hx hb dL_isMet_40 (by decide) ?_
          exact ih _    H locs ls h hw (lv_sub hl [1, 0] rfl)
        · replace h := it_f c7 h
          refine lv_aload_n hx hb dL_isMet_21 rfl (lv_at hl 0 rfl) ?_
          refine lv_iload_n hx hb dL_isMet_22 rfl (lv_at hl 1 rfl) ?_
          refine lv_iconst (v := 1) hx hb dL_isMet_23 (by decide) ?_
          obtain ⟨v8, k9, h⟩ := it_b h
          refine kT_i (As := [.ref (ad 30), .int v1, .int (1 : Int32)]) (rest := []) hx_E hw (c_L_around l K N hN ad hI v1 (1 : Int32) σ k9) mi_L_around sm_L_around ml_L_29 rfl ⟨⟨Nat.le_of_ble_eq_true rfl, Nat.le_of_ble_eq_true rfl⟩, rfl, rfl⟩ ⟨Nat.zero_le _, Nat.zero_le _⟩ hl.1 rfl (Nat.le_of_ble_eq_true rfl) dL_isMet_24 (fun H locs hw => ?_)
          refine lv_aload_n hx hb dL_isMet_27 rfl (lv_at hl 0 rfl) ?_
          refine lv_iconst (v := 2) hx hb dL_isMet_28 (by decide) ?_
          refine lv_iload_n hx hb dL_isMet_29 rfl (lv_at hl 1 rfl) ?_
          refine lv_iadd hx hb dL_isMet_30 ?_
          obtain ⟨g10, h⟩ := it_g h
          refine aC_30 hx_E hw hN g10 dL_isMet_31 ?_
          refine lv_icmp_eq (tgt := 37) hx hb dL_isMet_32 (by decide) (fun c11 => ?_) (fun c11 => ?_)
          · replace h := it_t c11 h
            refine lv_iinc (v := (v1 + 1)) (lv' := [(1, .int (v1 + 1)), (0, .ref (ad 30))]) hx hb dL_isMet_37 hl (k := 1) rfl rfl (by decide) rfl (fun ls hl => ?_)
            refine lv_goto (tgt := 2) hx hb dL_isMet_40 (by decide) ?_
            exact ih _    H locs ls h hw (lv_sub hl [1, 0] rfl)
          · replace h := it_f c11 h
            refine lv_iconst (v := 0) hx hb dL_isMet_35 (by decide) ?_
            have e9 := Option.some.inj h
            subst e9
            replace h := h_φ4
            exact hE hw (Option.some.inj h) rfl (Or.inl rfl) dL_isMet_36
  exact hL2 600 _   H locs ls h9 hw (lv_sub hl [1, 0] rfl)
set_option maxHeartbeats 4000000 in
set_option maxRecDepth 100000 in
theorem c_L_drawn (l : Launch) (K : vK) (N : Nat) (hN : 31 ≤ N) (ad : Nat → Nat) (hI : adInj N ad) (σ : vSt) {r : Int32} (h : f_L_drawn σ = some r) : MCi l yL_drawn (wsY yL_drawn cL_drawn 3 (some .int)) (rmF 3 40) K N ad (cC K ad) [.ref (ad 30)] σ r σ := by
  refine MCi_of (own := RL) (plainFor_of_name (by decide)) hI rfl (Nat.le_of_ble_eq_true rfl) ?_
  intro p e s m args below meth c A Q hx_E hE H locs ls hw hl
  have hx := hx_E.1; have hb := hx_E.2.1; have hown := hx_E.2.2.2.1; have hts := hx_E.2.2.2.2.1
  replace hl : lv_has ls 3 [(0, .ref (ad 30))] := hl
  have h30 : 30 ≤ N := Nat.le_trans (by decide) hN
  have hI30 : adInj 30 ad := adInj_le h30 hI
  unfold f_L_drawn at h
  refine lv_iconst (v := 0) hx hb dL_drawn_0 (by decide) ?_
  refine lv_istore_n (lv' := [(1, .int (0 : Int32)), (0, .ref (ad 30))]) hx hb dL_drawn_1 rfl hl (by decide) rfl (fun ls hl => ?_)
  refine lv_iconst (v := 0) hx hb dL_drawn_2 (by decide) ?_
  refine lv_istore_n (lv' := [(2, .int (0 : Int32)), (1, .int (0 : Int32)), (0, .ref (ad 30))]) hx hb dL_drawn_3 rfl hl (by decide) rfl (fun ls hl => ?_)
  obtain ⟨φ6, h9, h_φ6⟩ := it_b h
  have hJ5 : ∀ (v3 : Int32), v3 = φ6 → ∀ (H : Heap) (locs : List Loc) (ls : Array Slot), PW K N ad (cC K ad) A s.heap σ H locs → lv_has ls 3 [(1, .int v3)] → W p l e (rmF 3 40) s m args below meth c H locs 0 0 Q (F0 m 36 ls []) := by
    intro v3 e9 H locs ls hw hl
    subst e9
    replace h := h_φ6
    refine lv_iload_n hx hb dL_drawn_36 rfl (lv_at hl 0 rfl) ?_
    exact hE hw (Option.some.inj h) rfl dL_drawn_37
  have hL4 : ∀ (n9 : Nat) (v1 : Int32) (v2 : Int32), ∀ (H : Heap) (locs : List Loc) (ls : Array Slot), f_L_drawn_4 σ n9 v1 v2 = some φ6 → PW K N ad (cC K ad) A s.heap σ H locs → lv_has ls 3 [(0, .ref (ad 30)), (1, .int v1), (2, .int v2)] → W p l e (rmF 3 40) s m args below meth c H locs 0 0 Q (F0 m 4 ls []) := by
    intro n9
    induction n9 with
    | zero => intro v1 v2 H locs ls h hw hl; rw [f_L_drawn_4.eq_1] at h; exact it_n h
    | succ n9 ih =>
      intro v1 v2 H locs ls h hw hl
      rw [f_L_drawn_4.eq_2] at h
      refine lv_iload_n hx hb dL_drawn_4 rfl (lv_at hl 2 rfl) ?_
      refine lv_aload_n hx hb dL_drawn_5 rfl (lv_at hl 0 rfl) ?_
      obtain ⟨v7, k8, h⟩ := it_b h
      refine kT_i (As := [.ref (ad 30)]) (rest := [.int v2]) hx_E hw (c_L_edges l K N hN ad hI  σ k8) mi_L_edges sm_L_edges ml_L_19 rfl ⟨⟨Nat.le_of_ble_eq_true rfl, Nat.le_of_ble_eq_true rfl⟩, rfl, rfl⟩ ⟨Nat.zero_le _, Nat.zero_le _⟩ hl.1 rfl (Nat.le_of_ble_eq_true rfl) dL_drawn_6 (fun H locs hw => ?_)
      refine lv_icmp_ge (tgt := 36) hx hb dL_drawn_9 (by decide) (fun c9 => ?_) (fun c9 => ?_)
      · replace h := it_t c9 h
        have e9 := Option.some.inj h
        subst e9
        exact hJ5 _ rfl  H locs ls hw (lv_sub hl [1] rfl)
      · replace h := it_f c9 h
        refine lv_iload_n hx hb dL_drawn_12 rfl (lv_at hl 1 rfl) ?_
        refine lv_aload_n hx hb dL_drawn_13 rfl (lv_at hl 0 rfl) ?_
        refine lv_bipush (v := 18) hx hb dL_drawn_14 (by decide) ?_
        refine lv_iload_n hx hb dL_drawn_16 rfl (lv_at hl 2 rfl) ?_
        refine lv_iadd hx hb dL_drawn_17 ?_
        obtain ⟨g10, h⟩ := it_g h
        refine aC_30 hx_E hw hN g10 dL_drawn_18 ?_
        refine lv_iconst (v := 1) hx hb dL_drawn_19 (by decide) ?_
        obtain ⟨φ14, h9, h_φ14⟩ := it_b h
        have hJ13 : ∀ (v12 : Int32), v12 = φ14 → (v12 = 0 ∨ v12 = 1) → ∀ (H : Heap) (locs : List Loc) (ls : Array Slot), PW K N ad (cC K ad) A s.heap σ H locs → lv_has ls 3 [(0, .ref (ad 30)), (2, .int v2)] → W p l e (rmF 3 40) s m args below meth c H locs 0 0 Q (F0 m 28 ls [.int v12, .int v1]) := by
          intro v12 e9 z_v12 H locs ls hw hl
          subst e9
          replace h := h_φ14
          refine lv_iadd hx hb dL_drawn_28 ?_
          obtain ⟨v15, e_v15, h⟩ := it_b h
          refine lt_topi (Option.some.inj e_v15) ?_
          refine lv_istore_n (lv' := [(1, .int v15), (0, .ref (ad 30)), (2, .int v2)]) hx hb dL_drawn_29 rfl hl (by decide) rfl (fun ls hl => ?_)
          refine lv_iinc (v := (v2 + 1)) (lv' := [(2, .int (v2 + 1)), (1, .int v15), (0, .ref (ad 30))]) hx hb dL_drawn_30 hl (k := 2) rfl rfl (by decide) rfl (fun ls hl => ?_)
          refine lv_goto (tgt := 4) hx hb dL_drawn_33 (by decide) ?_
          exact ih _ _    H locs ls h hw (lv_sub hl [2, 1, 0] rfl)
        replace h := h9
        refine lv_icmp_ne (tgt := 27) hx hb dL_drawn_20 (by decide) (fun c11 => ?_) (fun c11 => ?_)
        · replace h := it_f c11 h
          refine lv_iconst (v := 0) hx hb dL_drawn_27 (by decide) ?_
          have e9 := Option.some.inj h
          subst e9
          exact hJ13 _ rfl (Or.inl rfl) H locs ls hw (lv_sub hl [0, 2] rfl)
        · replace h := it_t c11 h
          refine lv_iconst (v := 1) hx hb dL_drawn_23 (by decide) ?_
          refine lv_goto (tgt := 28) hx hb dL_drawn_24 (by decide) ?_
          have e9 := Option.some.inj h
          subst e9
          exact hJ13 _ rfl (Or.inr rfl) H locs ls hw (lv_sub hl [0, 2] rfl)
  exact hL4 600 _ _   H locs ls h9 hw (lv_sub hl [2, 1, 0] rfl)
set_option maxHeartbeats 4000000 in
set_option maxRecDepth 100000 in
theorem c_L_firstRing (l : Launch) (K : vK) (N : Nat) (hN : 32 ≤ N) (ad : Nat → Nat) (hI : adInj N ad) (σ : vSt) {r : Int32} (h : f_L_firstRing σ = some r) : MCi l yL_firstRing (wsY yL_firstRing cL_firstRing 5 (some .int)) (rmF 6 116) K N ad (cC K ad) [.ref (ad 30), .ref (ad 31)] σ r σ := by
  refine MCi_of (own := RL) (plainFor_of_name (by decide)) hI rfl (Nat.le_of_ble_eq_true rfl) ?_
  intro p e s m args below meth c A Q hx_E hE H locs ls hw hl
  have hx := hx_E.1; have hb := hx_E.2.1; have hown := hx_E.2.2.2.1; have hts := hx_E.2.2.2.2.1
  replace hl : lv_has ls 5 [(0, .ref (ad 30)), (1, .ref (ad 31))] := hl
  have h30 : 30 ≤ N := Nat.le_trans (by decide) hN
  have hI30 : adInj 30 ad := adInj_le h30 hI
  unfold f_L_firstRing at h
  refine lv_bipush (v := -2) hx hb dL_firstRing_0 (by decide) ?_
  refine lv_istore_n (lv' := [(2, .int (-2 : Int32)), (0, .ref (ad 30)), (1, .ref (ad 31))]) hx hb dL_firstRing_2 rfl hl (by decide) rfl (fun ls hl => ?_)
  refine lv_aload_n hx hb dL_firstRing_3 rfl (lv_at hl 1 rfl) ?_
  obtain ⟨v1, k2, h⟩ := it_b h
  refine kT_i (As := [.ref (ad 30)]) (rest := []) hx_E hw (c_L_edges l K N (Nat.le_of_succ_le hN) ad hI  σ k2) mi_L_edges sm_L_edges ml_L_19 rfl ⟨⟨Nat.le_of_ble_eq_true rfl, Nat.le_of_ble_eq_true rfl⟩, rfl, rfl⟩ ⟨Nat.zero_le _, Nat.zero_le _⟩ hl.1 rfl (Nat.le_of_ble_eq_true rfl) dL_firstRing_4 (fun H locs hw => ?_)
  refine lv_iconst (v := 1) hx hb dL_firstRing_7 (by decide) ?_
  refine lv_isub hx hb dL_firstRing_8 ?_
  obtain ⟨v3, e_v3, h⟩ := it_b h
  refine lt_topi (Option.some.inj e_v3) ?_
  refine lv_istore_n (lv' := [(3, .int v3), (2, .int (-2 : Int32)), (0, .ref (ad 30)), (1, .ref (ad 31))]) hx hb dL_firstRing_9 rfl hl (by decide) rfl (fun ls hl => ?_)
  obtain ⟨φ9, h9, h_φ9⟩ := it_b h
  have hJ8 : ∀ (v6 : Int32), v6 = φ9 → ∀ (H : Heap) (locs : List Loc) (ls : Array Slot), PW K N ad (cC K ad) A s.heap σ H locs → lv_has ls 5 [(2, .int v6)] → W p l e (rmF 6 116) s m args below meth c H locs 0 0 Q (F0 m 84 ls []) := by
    intro v6 e9 H locs ls hw hl
    subst e9
    replace h := h_φ9
    refine lv_iload_n hx hb dL_firstRing_84 rfl (lv_at hl 0 rfl) ?_
    exact hE hw (Option.some.inj h) rfl dL_firstRing_85
  have hL7 : ∀ (n9 : Nat) (v4 : Int32) (v5 : Int32), ∀ (H : Heap) (locs : List Loc) (ls : Array Slot), f_L_firstRing_10 σ n9 v4 v5 = some φ9 → PW K N ad (cC K ad) A s.heap σ H locs → lv_has ls 5 [(0, .ref (ad 30)), (1, .ref (ad 31)), (2, .int v4), (3, .int v5)] → W p l e (rmF 6 116) s m args below meth c H locs 0 0 Q (F0 m 10 ls []) := by
    intro n9
    induction n9 with
    | zero => intro v4 v5 H locs ls h hw hl; rw [f_L_firstRing_10.eq_1] at h; exact it_n h
    | succ n9 ih =>
      intro v4 v5 H locs ls h hw hl
      rw [f_L_firstRing_10.eq_2] at h
      refine lv_iload_n hx hb dL_firstRing_10 rfl (lv_at hl 3 rfl) ?_
      refine lv_if_lt (tgt := 84) hx hb dL_firstRing_11 (by decide) (fun c10 => ?_) (fun c10 => ?_)
      · replace h := it_t c10 h
        have e9 := Option.some.inj h
        subst e9
        exact hJ8 _ rfl  H locs ls hw (lv_sub hl [2] rfl)
      · replace h := it_f c10 h
        refine lv_aload_n hx hb dL_firstRing_14 rfl (lv_at hl 1 rfl) ?_
        refine lv_iload_n hx hb dL_firstRing_15 rfl (lv_at hl 3 rfl) ?_
        obtain ⟨g11, h⟩ := it_g h
        refine aC_31 hx_E hw hN g11 dL_firstRing_16 ?_
        refine lv_iload_n hx hb dL_firstRing_17 rfl (lv_at hl 3 rfl) ?_
        refine lv_icmp_ne (tgt := 78) hx hb dL_firstRing_18 (by decide) (fun c12 => ?_) (fun c12 => ?_)
        · replace h := it_f c12 h
          refine lv_iinc (v := (v5 + (-1))) (lv' := [(3, .int (v5 + (-1))), (0, .ref (ad 30)), (1, .ref (ad 31)), (2, .int v4)]) hx hb dL_firstRing_78 hl (k := 3) rfl rfl (by decide) rfl (fun ls hl => ?_)
          refine lv_goto (tgt := 10) hx hb dL_firstRing_81 (by decide) ?_
          exact ih _ _    H locs ls h hw (lv_sub hl [1, 2, 3, 0] rfl)
        · replace h := it_t c12 h
          refine lv_aload_n hx hb dL_firstRing_21 rfl (lv_at hl 0 rfl) ?_
          refine lv_aload_n hx hb dL_firstRing_22 rfl (lv_at hl 1 rfl) ?_
          refine lv_iload_n hx hb dL_firstRing_23 rfl (lv_at hl 3 rfl) ?_
          obtain ⟨v13, k14, h⟩ := it_b h
          refine kT_z (As := [.ref (ad 30), .ref (ad 31), .int v5]) (rest := []) hx_E hw (c_L_isRing l K N hN ad hI v5 σ k14) mi_L_isRing sm_L_isRing ml_L_39 rfl ⟨⟨Nat.le_of_ble_eq_true rfl, Nat.le_of_ble_eq_true rfl⟩, rfl, rfl⟩ ⟨Nat.zero_le _, Nat.zero_le _⟩ hl.1 rfl (Nat.le_of_ble_eq_true rfl) dL_firstRing_24 (fun z15 H locs hw => ?_)
          refine lv_if_eq (tgt := 78) hx hb dL_firstRing_27 (by decide) (fun c16 => ?_) (fun c16 => ?_)
          · replace h := it_t c16 h
            refine lv_iinc (v := (v5 + (-1))) (lv' := [(3, .int (v5 + (-1))), (0, .ref (ad 30)), (1, .ref (ad 31)), (2, .int v4)]) hx hb dL_firstRing_78 hl (k := 3) rfl rfl (by decide) rfl (fun ls hl => ?_)
            refine lv_goto (tgt := 10) hx hb dL_firstRing_81 (by decide) ?_
            exact ih _ _    H locs ls h hw (lv_sub hl [1, 2, 3, 0] rfl)
          · replace h := it_f c16 h
            refine lv_aload_n hx hb dL_firstRing_30 rfl (lv_at hl 0 rfl) ?_
            obtain ⟨v17, k18, h⟩ := it_b h
            refine kT_z (As := [.ref (ad 30)]) (rest := []) hx_E hw (c_L_isMet l K N (Nat.le_of_succ_le hN) ad hI  σ k18) mi_L_isMet sm_L_isMet ml_L_43 rfl ⟨⟨Nat.le_of_ble_eq_true rfl, Nat.le_of_ble_eq_true rfl⟩, rfl, rfl⟩ ⟨Nat.zero_le _, Nat.zero_le _⟩ hl.1 rfl (Nat.le_of_ble_eq_true rfl) dL_firstRing_31 (fun z19 H locs hw => ?_)
            obtain ⟨φ23, h9, h_φ23⟩ := it_b h
            have hJ22 : ∀ (v21 : Int32), v21 = φ23 → (v21 = 0 ∨ v21 = 1) → ∀ (H : Heap) (locs : List Loc) (ls : Array Slot), PW K N ad (cC K ad) A s.heap σ H locs → lv_has ls 5 [(0, .ref (ad 30)), (1, .ref (ad 31)), (2, .int v4), (3, .int v5)] → W p l e (rmF 6 116) s m args below meth c H locs 0 0 Q (F0 m 55 ls [.int v21]) := by
              intro v21 e9 z_v21 H locs ls hw hl
              subst e9
              replace h := h_φ23
              refine lv_istore (lv' := [(4, .int v21), (0, .ref (ad 30)), (1, .ref (ad 31)), (2, .int v4), (3, .int v5)]) hx hb dL_firstRing_55 hl (by decide) rfl (fun ls hl => ?_)
              refine lv_iload hx hb dL_firstRing_57 (lv_at hl 0 rfl) ?_
              refine lv_if_eq (tgt := 76) hx hb dL_firstRing_59 (by decide) (fun c29 => ?_) (fun c29 => ?_)
              · replace h := it_t c29 h
                refine lv_iload_n hx hb dL_firstRing_76 rfl (lv_at hl 4 rfl) ?_
                refine lv_istore_n (lv' := [(2, .int v5), (4, .int v21), (0, .ref (ad 30)), (1, .ref (ad 31)), (3, .int v5)]) hx hb dL_firstRing_77 rfl hl (by decide) rfl (fun ls hl => ?_)
                refine lv_iinc (v := (v5 + (-1))) (lv' := [(3, .int (v5 + (-1))), (2, .int v5), (4, .int v21), (0, .ref (ad 30)), (1, .ref (ad 31))]) hx hb dL_firstRing_78 hl (k := 4) rfl rfl (by decide) rfl (fun ls hl => ?_)
                refine lv_goto (tgt := 10) hx hb dL_firstRing_81 (by decide) ?_
                exact ih _ _    H locs ls h hw (lv_sub hl [3, 4, 1, 0] rfl)
              · replace h := it_f c29 h
                refine lv_iload_n hx hb dL_firstRing_62 rfl (lv_at hl 3 rfl) ?_
                refine lv_bipush (v := -2) hx hb dL_firstRing_63 (by decide) ?_
                refine lv_icmp_ne (tgt := 72) hx hb dL_firstRing_65 (by decide) (fun c30 => ?_) (fun c30 => ?_)
                · replace h := it_f c30 h
                  refine lv_iload_n hx hb dL_firstRing_72 rfl (lv_at hl 3 rfl) ?_
                  refine lv_goto (tgt := 77) hx hb dL_firstRing_73 (by decide) ?_
                  refine lv_istore_n (lv' := [(2, .int v4), (4, .int v21), (0, .ref (ad 30)), (1, .ref (ad 31)), (3, .int v5)]) hx hb dL_firstRing_77 rfl hl (by decide) rfl (fun ls hl => ?_)
                  refine lv_iinc (v := (v5 + (-1))) (lv' := [(3, .int (v5 + (-1))), (2, .int v4), (4, .int v21), (0, .ref (ad 30)), (1, .ref (ad 31))]) hx hb dL_firstRing_78 hl (k := 4) rfl rfl (by decide) rfl (fun ls hl => ?_)
                  refine lv_goto (tgt := 10) hx hb dL_firstRing_81 (by decide) ?_
                  exact ih _ _    H locs ls h hw (lv_sub hl [3, 4, 1, 0] rfl)
                · replace h := it_t c30 h
                  refine lv_iconst (v := -1) hx hb dL_firstRing_68 (by decide) ?_
                  refine lv_goto (tgt := 77) hx hb dL_firstRing_69 (by decide) ?_
                  refine lv_istore_n (lv' := [(2, .int (-1 : Int32)), (4, .int v21), (0, .ref (ad 30)), (1, .ref (ad 31)), (3, .int v5)]) hx hb dL_firstRing_77 rfl hl (by decide) rfl (fun ls hl => ?_)
                  refine lv_iinc (v := (v5 + (-1))) (lv' := [(3, .int (v5 + (-1))), (2, .int (-1 : Int32)), (4, .int v21), (0, .ref (ad 30)), (1, .ref (ad 31))]) hx hb dL_firstRing_78 hl (k := 4) rfl rfl (by decide) rfl (fun ls hl => ?_)
                  refine lv_goto (tgt := 10) hx hb dL_firstRing_81 (by decide) ?_
                  exact ih _ _    H locs ls h hw (lv_sub hl [3, 4, 1, 0] rfl)
            replace h := h9
            refine lv_if_eq (tgt := 54) hx hb dL_firstRing_34 (by decide) (fun c20 => ?_) (fun c20 => ?_)
            · replace h := it_t c20 h
              refine lv_iconst (v := 0) hx hb dL_firstRing_54 (by decide) ?_
              have e9 := Option.some.inj h
              subst e9
              exact hJ22 _ rfl (Or.inl rfl) H locs ls hw (lv_sub hl [0, 1, 2, 3] rfl)
            · replace h := it_f c20 h
              refine lv_aload_n hx hb dL_firstRing_37 rfl (lv_at hl 0 rfl) ?_
              refine lv_aload_n hx hb dL_firstRing_38 rfl (lv_at hl 1 rfl) ?_
              refine lv_iload_n hx hb dL_firstRing_39 rfl (lv_at hl 3 rfl) ?_
              obtain ⟨v24, k25, h⟩ := it_b h
              refine kT_i (As := [.ref (ad 30), .ref (ad 31), .int v5]) (rest := []) hx_E hw (c_L_size l K N hN ad hI v5 σ k25) mi_L_size sm_L_size ml_L_47 rfl ⟨⟨Nat.le_of_ble_eq_true rfl, Nat.le_of_ble_eq_true rfl⟩, rfl, rfl⟩ ⟨Nat.zero_le _, Nat.zero_le _⟩ hl.1 rfl (Nat.le_of_ble_eq_true rfl) dL_firstRing_40 (fun H locs hw => ?_)
              refine lv_aload_n hx hb dL_firstRing_43 rfl (lv_at hl 0 rfl) ?_
              obtain ⟨v26, k27, h⟩ := it_b h
              refine kT_i (As := [.ref (ad 30)]) (rest := [.int v24]) hx_E hw (c_L_drawn l K N (Nat.le_of_succ_le hN) ad hI  σ k27) mi_L_drawn sm_L_drawn ml_L_51 rfl ⟨⟨Nat.le_of_ble_eq_true rfl, Nat.le_of_ble_eq_true rfl⟩, rfl, rfl⟩ ⟨Nat.zero_le _, Nat.zero_le _⟩ hl.1 rfl (Nat.le_of_ble_eq_true rfl) dL_firstRing_44 (fun H locs hw => ?_)
              refine lv_icmp_ne (tgt := 54) hx hb dL_firstRing_47 (by decide) (fun c28 => ?_) (fun c28 => ?_)
              · replace h := it_f c28 h
                refine lv_iconst (v := 0) hx hb dL_firstRing_54 (by decide) ?_
                have e9 := Option.some.inj h
                subst e9
                exact hJ22 _ rfl (Or.inl rfl) H locs ls hw (lv_sub hl [0, 1, 2, 3] rfl)
              · replace h := it_t c28 h
                refine lv_iconst (v := 1) hx hb dL_firstRing_50 (by decide) ?_
                refine lv_goto (tgt := 55) hx hb dL_firstRing_51 (by decide) ?_
                have e9 := Option.some.inj h
                subst e9
                exact hJ22 _ rfl (Or.inr rfl) H locs ls hw (lv_sub hl [0, 1, 2, 3] rfl)
  exact hL7 600 _ _   H locs ls h9 hw (lv_sub hl [2, 3, 1, 0] rfl)
set_option maxHeartbeats 4000000 in
set_option maxRecDepth 100000 in
theorem c_L_types (l : Launch) (K : vK) (N : Nat) (hN : 31 ≤ N) (ad : Nat → Nat) (hI : adInj N ad) (l2 : Int32) (l3 : Int32) (σ : vSt) {r : Int32} {σ' : vSt} (h : f_L_types l2 l3 σ = some (r, σ')) : MCz l yL_types (wsY yL_types cL_types 8 (some .boolean)) (rmF 5 85) K N ad (cC K ad) [.ref (ad 8), .ref (ad 30), .int l2, .int l3] σ r σ' := by
  refine MCz_of (own := RL) (plainFor_of_name (by decide)) hI rfl (Nat.le_of_ble_eq_true rfl) ?_
  intro p e s m args below meth c A Q hx_E hE H locs ls hw hl
  have hx := hx_E.1; have hb := hx_E.2.1; have hown := hx_E.2.2.2.1; have hts := hx_E.2.2.2.2.1
  replace hl : lv_has ls 8 [(0, .ref (ad 8)), (1, .ref (ad 30)), (2, .int l2), (3, .int l3)] := hl
  have h30 : 30 ≤ N := Nat.le_trans (by decide) hN
  have hI30 : adInj 30 ad := adInj_le h30 hI
  unfold f_L_types at h
  refine lv_aload_n hx hb dL_types_0 rfl (lv_at hl 0 rfl) ?_
  obtain ⟨⟨v1, σ2⟩, k3, h⟩ := it_b h
  refine kU_i (As := []) (rest := []) (q := 8) hx_E h30 hI hw (c_X6_clearText l K ad hI30  σ k3) mi_X6_clearText mv_X6_clearText ml_L_54 (by decide) rfl rfl rfl ⟨⟨Nat.le_of_ble_eq_true rfl, Nat.le_of_ble_eq_true rfl⟩, rfl, rfl⟩ ⟨Nat.zero_le _, Nat.zero_le _⟩ hl.1 rfl (Nat.le_of_ble_eq_true rfl) dL_types_1 (fun H locs hw => ?_)
  obtain ⟨σ4, e_σ4, h⟩ := it_b h
  replace hw := PW_cast (Option.some.inj e_σ4) hw
  obtain ⟨φ8, h9, h_φ8⟩ := it_b h
  have hJ7 : ∀ (v6 : Int32), v6 = φ8 → (v6 = 0 ∨ v6 = 1) → ∀ (H : Heap) (locs : List Loc) (ls : Array Slot), PW K N ad (cC K ad) A s.heap σ4 H locs → lv_has ls 8 [(0, .ref (ad 8)), (1, .ref (ad 30)), (2, .int l2), (3, .int l3)] → W p l e (rmF 5 85) s m args below meth c H locs 0 0 Q (F0 m 12 ls [.int v6]) := by
    intro v6 e9 z_v6 H locs ls hw hl
    subst e9
    replace h := h_φ8
    refine lv_istore (lv' := [(4, .int v6), (0, .ref (ad 8)), (1, .ref (ad 30)), (2, .int l2), (3, .int l3)]) hx hb dL_types_12 hl (by decide) rfl (fun ls hl => ?_)
    refine lv_aload_n hx hb dL_types_14 rfl (lv_at hl 2 rfl) ?_
    refine lv_iconst (v := 0) hx hb dL_types_15 (by decide) ?_
    refine lv_iconst (v := 1) hx hb dL_types_16 (by decide) ?_
    refine lv_iload_n hx hb dL_types_17 rfl (lv_at hl 3 rfl) ?_
    refine lv_iload_n hx hb dL_types_18 rfl (lv_at hl 4 rfl) ?_
    obtain ⟨v9, k10, h⟩ := it_b h
    refine kS_i (As := [.int l2, .int l3]) (rest := [.int (1 : Int32), .int (0 : Int32), .ref (ad 30)]) hx_E hw (c_L_low l K l2 l3 k10) mi_L_low sm_L_low ml_L_60 rfl ⟨⟨Nat.le_of_ble_eq_true rfl, Nat.le_of_ble_eq_true rfl⟩, rfl, rfl⟩ ⟨Nat.zero_le _, Nat.zero_le _⟩ hl.1 rfl (Nat.le_of_ble_eq_true rfl) dL_types_19 (fun H locs hw => ?_)
    refine lv_iadd hx hb dL_types_22 ?_
    refine scC_30 hx_E hw hN (by decide) rfl dL_types_23 (fun H locs hw => ?_)
    refine lv_aload_n hx hb dL_types_24 rfl (lv_at hl 2 rfl) ?_
    refine lv_iconst (v := 1) hx hb dL_types_25 (by decide) ?_
    refine lv_iconst (v := 1) hx hb dL_types_26 (by decide) ?_
    refine lv_iload_n hx hb dL_types_27 rfl (lv_at hl 3 rfl) ?_
    refine lv_iconst (v := 2) hx hb dL_types_28 (by decide) ?_
    refine lv_ishr hx hb dL_types_29 ?_
    refine lv_iload_n hx hb dL_types_30 rfl (lv_at hl 4 rfl) ?_
    obtain ⟨v11, k12, h⟩ := it_b h
    refine kS_i (As := [.int (l2 >>> ((2 : Int32) &&& 31)), .int l3]) (rest := [.int (1 : Int32), .int (1 : Int32), .ref (ad 30)]) hx_E hw (c_L_low l K (l2 >>> ((2 : Int32) &&& 31)) l3 k12) mi_L_low sm_L_low ml_L_60 rfl ⟨⟨Nat.le_of_ble_eq_true rfl, Nat.le_of_ble_eq_true rfl⟩, rfl, rfl⟩ ⟨Nat.zero_le _, Nat.zero_le _⟩ hl.1 rfl (Nat.le_of_ble_eq_true rfl) dL_types_31 (fun H locs hw => ?_)
    refine lv_iadd hx hb dL_types_34 ?_
    refine scC_30 hx_E hw hN (by decide) rfl dL_types_35 (fun H locs hw => ?_)
    refine lv_iconst (v := 0) hx hb dL_types_36 (by decide) ?_
    refine lv_istore (lv' := [(5, .int (0 : Int32)), (4, .int v6), (0, .ref (ad 8)), (1, .ref (ad 30)), (2, .int l2), (3, .int l3)]) hx hb dL_types_37 hl (by decide) rfl (fun ls hl => ?_)
    obtain ⟨σ13, e_σ13, h⟩ := it_b h
    replace hw := PW_cast (Option.some.inj e_σ13) hw
    obtain ⟨φ21, h9, h_φ21⟩ := it_b h
    have hJ20 : ∀ (v17 : Int32) (σ18 : vSt), (v17, σ18) = φ21 → (v17 = 0 ∨ v17 = 1) → ∀ (H : Heap) (locs : List Loc) (ls : Array Slot), PW K N ad (cC K ad) A s.heap σ18 H locs → lv_has ls 8 [(0, .ref (ad 8)), (4, .int v17)] → W p l e (rmF 5 85) s m args below meth c H locs 0 0 Q (F0 m 174 ls []) := by
      intro v17 σ18 e9 z_v17 H locs ls hw hl
      subst e9
      replace h := h_φ21
      refine lv_iload hx hb dL_types_174 (lv_at hl 1 rfl) ?_
      refine lv_if_eq (tgt := 191) hx hb dL_types_176 (by decide) (fun c85 => ?_) (fun c85 => ?_)
      · replace h := it_t c85 h
        refine lv_iconst (v := 0) hx hb dL_types_191 (by decide) ?_
        exact hE hw (congrArg Prod.fst (Option.some.inj h)) (congrArg Prod.snd (Option.some.inj h)) (Or.inl rfl) dL_types_192
      · replace h := it_f c85 h
        refine lv_aload_n hx hb dL_types_179 rfl (lv_at hl 0 rfl) ?_
        obtain ⟨⟨v86, σ87⟩, k88, h⟩ := it_b h
        refine kU_i (As := []) (rest := []) (q := 8) hx_E h30 hI hw (c_X6_fault l K ad hI30  σ18 k88) mi_X6_fault mv_X6_fault ml_L_68 (by decide) rfl rfl rfl ⟨⟨Nat.le_of_ble_eq_true rfl, Nat.le_of_ble_eq_true rfl⟩, rfl, rfl⟩ ⟨Nat.zero_le _, Nat.zero_le _⟩ hl.1 rfl (Nat.le_of_ble_eq_true rfl) dL_types_180 (fun H locs hw => ?_)
        obtain ⟨σ89, e_σ89, h⟩ := it_b h
        replace hw := PW_cast (Option.some.inj e_σ89) hw
        refine lv_iconst (v := -1) hx hb dL_types_183 (by decide) ?_
        refine lv_icmp_ne (tgt := 191) hx hb dL_types_184 (by decide) (fun c90 => ?_) (fun c90 => ?_)
        · replace h := it_f c90 h
          refine lv_iconst (v := 0) hx hb dL_types_191 (by decide) ?_
          exact hE hw (congrArg Prod.fst (Option.some.inj h)) (congrArg Prod.snd (Option.some.inj h)) (Or.inl rfl) dL_types_192
        · replace h := it_t c90 h
          refine lv_iconst (v := 1) hx hb dL_types_187 (by decide) ?_
          refine lv_goto (tgt := 192) hx hb dL_types_188 (by decide) ?_
          exact hE hw (congrArg Prod.fst (Option.some.inj h)) (congrArg Prod.snd (Option.some.inj h)) (Or.inr rfl) dL_types_192
    have hL19 : ∀ (n9 : Nat) (v14 : Int32) (v15 : Int32) (σ16 : vSt), (v14 = 0 ∨ v14 = 1) → ∀ (H : Heap) (locs : List Loc) (ls : Array Slot), f_L_types_39  n9 v14 v15 σ16 = some φ21 → PW K N ad (cC K ad) A s.heap σ16 H locs → lv_has ls 8 [(0, .ref (ad 8)), (1, .ref (ad 30)), (4, .int v14), (5, .int v15)] → W p l e (rmF 5 85) s m args below meth c H locs 0 0 Q (F0 m 39 ls []) := by
      intro n9
      induction n9 with
      | zero => intro v14 v15 σ16 z_v14 H locs ls h hw hl; rw [f_L_types_39.eq_1] at h; exact it_n h
      | succ n9 ih =>
        intro v14 v15 σ16 z_v14 H locs ls h hw hl
        rw [f_L_types_39.eq_2] at h
        refine lv_iload hx hb dL_types_39 (lv_at hl 3 rfl) ?_
        refine lv_aload_n hx hb dL_types_41 rfl (lv_at hl 1 rfl) ?_
        refine lv_iconst (v := 1) hx hb dL_types_42 (by decide) ?_
        refine acC_30 hx_E hw hN (by decide) rfl dL_types_43 ?_
        refine lv_icmp_ge (tgt := 174) hx hb dL_types_44 (by decide) (fun c22 => ?_) (fun c22 => ?_)
        · replace h := it_t c22 h
          have e9 := Option.some.inj h
          subst e9
          exact hJ20 _ _ rfl z_v14 H locs ls hw (lv_sub hl [0, 2] rfl)
        · replace h := it_f c22 h
          refine lv_iload hx hb dL_types_47 (lv_at hl 2 rfl) ?_
          obtain ⟨φ27, h9, h_φ27⟩ := it_b h
          have hJ26 : ∀ (v24 : Int32) (σ25 : vSt), (v24, σ25) = φ27 → (v24 = 0 ∨ v24 = 1) → ∀ (H : Heap) (locs : List Loc) (ls : Array Slot), PW K N ad (cC K ad) A s.heap σ25 H locs → lv_has ls 8 [(0, .ref (ad 8)), (1, .ref (ad 30)), (5, .int v15)] → W p l e (rmF 5 85) s m args below meth c H locs 0 0 Q (F0 m 84 ls [.int v24]) := by
            intro v24 σ25 e9 z_v24 H locs ls hw hl
            subst e9
            replace h := h_φ27
            refine lv_istore (lv' := [(4, .int v24), (0, .ref (ad 8)), (1, .ref (ad 30)), (5, .int v15)]) hx hb dL_types_84 hl (by decide) rfl (fun ls hl => ?_)
            refine lv_iconst (v := 0) hx hb dL_types_86 (by decide) ?_
            refine lv_istore (lv' := [(6, .int (0 : Int32)), (4, .int v24), (0, .ref (ad 8)), (1, .ref (ad 30)), (5, .int v15)]) hx hb dL_types_87 hl (by decide) rfl (fun ls hl => ?_)
            obtain ⟨φ56, h9, h_φ56⟩ := it_b h
            have hJ55 : ∀ (v51 : Int32) (σ52 : vSt), (v51, σ52) = φ56 → (v51 = 0 ∨ v51 = 1) → ∀ (H : Heap) (locs : List Loc) (ls : Array Slot), PW K N ad (cC K ad) A s.heap σ52 H locs → lv_has ls 8 [(0, .ref (ad 8)), (1, .ref (ad 30)), (4, .int v51), (5, .int v15)] → W p l e (rmF 5 85) s m args below meth c H locs 0 0 Q (F0 m 168 ls []) := by
              intro v51 σ52 e9 z_v51 H locs ls hw hl
              subst e9
              replace h := h_φ56
              refine lv_iinc (v := (v15 + 1)) (lv' := [(5, .int (v15 + 1)), (0, .ref (ad 8)), (1, .ref (ad 30)), (4, .int v51)]) hx hb dL_types_168 hl (k := 3) rfl rfl (by decide) rfl (fun ls hl => ?_)
              refine lv_goto (tgt := 39) hx hb dL_types_171 (by decide) ?_
              exact ih _ _ _  z_v51 H locs ls h hw (lv_sub hl [1, 2, 3, 0] rfl)
            have hL54 : ∀ (n9 : Nat) (v48 : Int32) (v49 : Int32) (σ50 : vSt), (v48 = 0 ∨ v48 = 1) → ∀ (H : Heap) (locs : List Loc) (ls : Array Slot), f_L_types_89x53 v15 n9 v48 v49 σ50 = some φ56 → PW K N ad (cC K ad) A s.heap σ50 H locs → lv_has ls 8 [(0, .ref (ad 8)), (1, .ref (ad 30)), (4, .int v48), (5, .int v15), (6, .int v49)] → W p l e (rmF 5 85) s m args below meth c H locs 0 0 Q (F0 m 89 ls []) := by
              intro n9
              induction n9 with
              | zero => intro v48 v49 σ50 z_v48 H locs ls h hw hl; rw [f_L_types_89x53.eq_1] at h; exact it_n h
              | succ n9 ih =>
                intro v48 v49 σ50 z_v48 H locs ls h hw hl
                rw [f_L_types_89x53.eq_2] at h
                refine lv_iload hx hb dL_types_89 (lv_at hl 4 rfl) ?_
                refine lv_aload_n hx hb dL_types_91 rfl (lv_at hl 1 rfl) ?_
                refine lv_iconst (v := 0) hx hb dL_types_92 (by decide) ?_
                refine acC_30 hx_E hw hN (by decide) rfl dL_types_93 ?_
                refine lv_icmp_ge (tgt := 168) hx hb dL_types_94 (by decide) (fun c57 => ?_) (fun c57 => ?_)
                · replace h := it_t c57 h
                  have e9 := Option.some.inj h
                  subst e9
                  exact hJ55 _ _ rfl z_v48 H locs ls hw (lv_sub hl [0, 1, 2, 3] rfl)
                · replace h := it_f c57 h
                  refine lv_aload_n hx hb dL_types_97 rfl (lv_at hl 1 rfl) ?_
                  refine lv_iconst (v := 2) hx hb dL_types_98 (by decide) ?_
                  refine lv_iload hx hb dL_types_99 (lv_at hl 3 rfl) ?_
                  refine lv_aload_n hx hb dL_types_101 rfl (lv_at hl 1 rfl) ?_
                  refine lv_iconst (v := 0) hx hb dL_types_102 (by decide) ?_
                  refine acC_30 hx_E hw hN (by decide) rfl dL_types_103 ?_
                  refine lv_imul hx hb dL_types_104 ?_
                  refine lv_iadd hx hb dL_types_105 ?_
                  refine lv_iload hx hb dL_types_106 (lv_at hl 4 rfl) ?_
                  refine lv_iadd hx hb dL_types_108 ?_
                  obtain ⟨g58, h⟩ := it_g h
                  refine aC_30 hx_E hw hN g58 dL_types_109 ?_
                  obtain ⟨v59, e_v59, h⟩ := it_b h
                  refine lt_topi (Option.some.inj e_v59) ?_
                  refine lv_istore (lv' := [(7, .int v59), (0, .ref (ad 8)), (1, .ref (ad 30)), (4, .int v48), (5, .int v15), (6, .int v49)]) hx hb dL_types_110 hl (by decide) rfl (fun ls hl => ?_)
                  refine lv_iload hx hb dL_types_112 (lv_at hl 3 rfl) ?_
                  refine lv_if_eq (tgt := 159) hx hb dL_types_114 (by decide) (fun c60 => ?_) (fun c60 => ?_)
                  · replace h := it_t c60 h
                    refine lv_iconst (v := 0) hx hb dL_types_159 (by decide) ?_
                    refine lv_istore (lv' := [(4, .int (0 : Int32)), (7, .int v59), (0, .ref (ad 8)), (1, .ref (ad 30)), (5, .int v15), (6, .int v49)]) hx hb dL_types_160 hl (by decide) rfl (fun ls hl => ?_)
                    refine lv_iinc (v := (v49 + 1)) (lv' := [(6, .int (v49 + 1)), (4, .int (0 : Int32)), (7, .int v59), (0, .ref (ad 8)), (1, .ref (ad 30)), (5, .int v15)]) hx hb dL_types_162 hl (k := 5) rfl rfl (by decide) rfl (fun ls hl => ?_)
                    refine lv_goto (tgt := 89) hx hb dL_types_165 (by decide) ?_
                    exact ih _ _ _  (Or.inl rfl) H locs ls h hw (lv_sub hl [3, 4, 1, 5, 0] rfl)
                  · replace h := it_f c60 h
                    refine lv_iload hx hb dL_types_117 (lv_at hl 5 rfl) ?_
                    refine lv_iconst (v := 3) hx hb dL_types_119 (by decide) ?_
                    refine lv_irem hx hb dL_types_120 (by decide) ?_
                    refine lv_if_gt (tgt := 133) hx hb dL_types_121 (by decide) (fun c61 => ?_) (fun c61 => ?_)
                    · replace h := it_t c61 h
                      refine lv_aload_n hx hb dL_types_133 rfl (lv_at hl 1 rfl) ?_
                      refine lv_iload hx hb dL_types_134 (lv_at hl 0 rfl) ?_
                      obtain ⟨φ65, h9, h_φ65⟩ := it_b h
                      have hJ64 : ∀ (v63 : Int32), v63 = φ65 → ∀ (H : Heap) (locs : List Loc) (ls : Array Slot), PW K N ad (cC K ad) A s.heap σ50 H locs → lv_has ls 8 [(0, .ref (ad 8)), (1, .ref (ad 30)), (5, .int v15), (6, .int v49)] → W p l e (rmF 5 85) s m args below meth c H locs 0 0 Q (F0 m 149 ls [.int v63, .ref (ad 8)]) := by
                        intro v63 e9 H locs ls hw hl
                        subst e9
                        replace h := h_φ65
                        obtain ⟨⟨v66, σ67⟩, k68, h⟩ := it_b h
                        refine kU_i (As := [.int v63]) (rest := []) (q := 8) hx_E h30 hI hw (c_X6_type l K ad hI30 v63 σ50 k68) mi_X6_type mv_X6_type ml_L_64 (by decide) rfl rfl rfl ⟨⟨Nat.le_of_ble_eq_true rfl, Nat.le_of_ble_eq_true rfl⟩, rfl, rfl⟩ ⟨Nat.zero_le _, Nat.zero_le _⟩ hl.1 rfl (Nat.le_of_ble_eq_true rfl) dL_types_149 (fun H locs hw => ?_)
                        obtain ⟨σ69, e_σ69, h⟩ := it_b h
                        replace hw := PW_cast (Option.some.inj e_σ69) hw
                        refine lv_if_le (tgt := 159) hx hb dL_types_152 (by decide) (fun c70 => ?_) (fun c70 => ?_)
                        · replace h := it_t c70 h
                          refine lv_iconst (v := 0) hx hb dL_types_159 (by decide) ?_
                          refine lv_istore (lv' := [(4, .int (0 : Int32)), (0, .ref (ad 8)), (1, .ref (ad 30)), (5, .int v15), (6, .int v49)]) hx hb dL_types_160 hl (by decide) rfl (fun ls hl => ?_)
                          refine lv_iinc (v := (v49 + 1)) (lv' := [(6, .int (v49 + 1)), (4, .int (0 : Int32)), (0, .ref (ad 8)), (1, .ref (ad 30)), (5, .int v15)]) hx hb dL_types_162 hl (k := 4) rfl rfl (by decide) rfl (fun ls hl => ?_)
                          refine lv_goto (tgt := 89) hx hb dL_types_165 (by decide) ?_
                          exact ih _ _ _  (Or.inl rfl) H locs ls h hw (lv_sub hl [2, 3, 1, 4, 0] rfl)
                        · replace h := it_f c70 h
                          refine lv_iconst (v := 1) hx hb dL_types_155 (by decide) ?_
                          refine lv_goto (tgt := 160) hx hb dL_types_156 (by decide) ?_
                          refine lv_istore (lv' := [(4, .int (1 : Int32)), (0, .ref (ad 8)), (1, .ref (ad 30)), (5, .int v15), (6, .int v49)]) hx hb dL_types_160 hl (by decide) rfl (fun ls hl => ?_)
                          refine lv_iinc (v := (v49 + 1)) (lv' := [(6, .int (v49 + 1)), (4, .int (1 : Int32)), (0, .ref (ad 8)), (1, .ref (ad 30)), (5, .int v15)]) hx hb dL_types_162 hl (k := 4) rfl rfl (by decide) rfl (fun ls hl => ?_)
                          refine lv_goto (tgt := 89) hx hb dL_types_165 (by decide) ?_
                          exact ih _ _ _  (Or.inr rfl) H locs ls h hw (lv_sub hl [2, 3, 1, 4, 0] rfl)
                      replace h := h9
                      refine lv_if_ge (tgt := 144) hx hb dL_types_136 (by decide) (fun c62 => ?_) (fun c62 => ?_)
                      · replace h := it_t c62 h
                        refine lv_bipush (v := 48) hx hb dL_types_144 (by decide) ?_
                        refine lv_iload hx hb dL_types_146 (lv_at hl 0 rfl) ?_
                        refine lv_iadd hx hb dL_types_148 ?_
                        have e9 := Option.some.inj h
                        subst e9
                        exact hJ64 _ rfl  H locs ls hw (lv_sub hl [1, 2, 4, 5] rfl)
                      · replace h := it_f c62 h
                        refine lv_bipush (v := 46) hx hb dL_types_139 (by decide) ?_
                        refine lv_goto (tgt := 149) hx hb dL_types_141 (by decide) ?_
                        have e9 := Option.some.inj h
                        subst e9
                        exact hJ64 _ rfl  H locs ls hw (lv_sub hl [1, 2, 4, 5] rfl)
                    · replace h := it_f c61 h
                      refine lv_aload_n hx hb dL_types_124 rfl (lv_at hl 1 rfl) ?_
                      refine lv_bipush (v := 32) hx hb dL_types_125 (by decide) ?_
                      obtain ⟨⟨v71, σ72⟩, k73, h⟩ := it_b h
                      refine kU_i (As := [.int (32 : Int32)]) (rest := []) (q := 8) hx_E h30 hI hw (c_X6_type l K ad hI30 (32 : Int32) σ50 k73) mi_X6_type mv_X6_type ml_L_64 (by decide) rfl rfl rfl ⟨⟨Nat.le_of_ble_eq_true rfl, Nat.le_of_ble_eq_true rfl⟩, rfl, rfl⟩ ⟨Nat.zero_le _, Nat.zero_le _⟩ hl.1 rfl (Nat.le_of_ble_eq_true rfl) dL_types_127 (fun H locs hw => ?_)
                      obtain ⟨σ74, e_σ74, h⟩ := it_b h
                      replace hw := PW_cast (Option.some.inj e_σ74) hw
                      refine lv_if_le (tgt := 159) hx hb dL_types_130 (by decide) (fun c75 => ?_) (fun c75 => ?_)
                      · replace h := it_t c75 h
                        refine lv_iconst (v := 0) hx hb dL_types_159 (by decide) ?_
                        refine lv_istore (lv' := [(4, .int (0 : Int32)), (7, .int v59), (0, .ref (ad 8)), (1, .ref (ad 30)), (5, .int v15), (6, .int v49)]) hx hb dL_types_160 hl (by decide) rfl (fun ls hl => ?_)
                        refine lv_iinc (v := (v49 + 1)) (lv' := [(6, .int (v49 + 1)), (4, .int (0 : Int32)), (7, .int v59), (0, .ref (ad 8)), (1, .ref (ad 30)), (5, .int v15)]) hx hb dL_types_162 hl (k := 5) rfl rfl (by decide) rfl (fun ls hl => ?_)
                        refine lv_goto (tgt := 89) hx hb dL_types_165 (by decide) ?_
                        exact ih _ _ _  (Or.inl rfl) H locs ls h hw (lv_sub hl [3, 4, 1, 5, 0] rfl)
                      · replace h := it_f c75 h
                        refine lv_aload_n hx hb dL_types_133 rfl (lv_at hl 1 rfl) ?_
                        refine lv_iload hx hb dL_types_134 (lv_at hl 0 rfl) ?_
                        obtain ⟨φ79, h9, h_φ79⟩ := it_b h
                        have hJ78 : ∀ (v77 : Int32), v77 = φ79 → ∀ (H : Heap) (locs : List Loc) (ls : Array Slot), PW K N ad (cC K ad) A s.heap σ74 H locs → lv_has ls 8 [(0, .ref (ad 8)), (1, .ref (ad 30)), (5, .int v15), (6, .int v49)] → W p l e (rmF 5 85) s m args below meth c H locs 0 0 Q (F0 m 149 ls [.int v77, .ref (ad 8)]) := by
                          intro v77 e9 H locs ls hw hl
                          subst e9
                          replace h := h_φ79
                          obtain ⟨⟨v80, σ81⟩, k82, h⟩ := it_b h
                          refine kU_i (As := [.int v77]) (rest := []) (q := 8) hx_E h30 hI hw (c_X6_type l K ad hI30 v77 σ74 k82) mi_X6_type mv_X6_type ml_L_64 (by decide) rfl rfl rfl ⟨⟨Nat.le_of_ble_eq_true rfl, Nat.le_of_ble_eq_true rfl⟩, rfl, rfl⟩ ⟨Nat.zero_le _, Nat.zero_le _⟩ hl.1 rfl (Nat.le_of_ble_eq_true rfl) dL_types_149 (fun H locs hw => ?_)
                          obtain ⟨σ83, e_σ83, h⟩ := it_b h
                          replace hw := PW_cast (Option.some.inj e_σ83) hw
                          refine lv_if_le (tgt := 159) hx hb dL_types_152 (by decide) (fun c84 => ?_) (fun c84 => ?_)
                          · replace h := it_t c84 h
                            refine lv_iconst (v := 0) hx hb dL_types_159 (by decide) ?_
                            refine lv_istore (lv' := [(4, .int (0 : Int32)), (0, .ref (ad 8)), (1, .ref (ad 30)), (5, .int v15), (6, .int v49)]) hx hb dL_types_160 hl (by decide) rfl (fun ls hl => ?_)
                            refine lv_iinc (v := (v49 + 1)) (lv' := [(6, .int (v49 + 1)), (4, .int (0 : Int32)), (0, .ref (ad 8)), (1, .ref (ad 30)), (5, .int v15)]) hx hb dL_types_162 hl (k := 4) rfl rfl (by decide) rfl (fun ls hl => ?_)
                            refine lv_goto (tgt := 89) hx hb dL_types_165 (by decide) ?_
                            exact ih _ _ _  (Or.inl rfl) H locs ls h hw (lv_sub hl [2, 3, 1, 4, 0] rfl)
                          · replace h := it_f c84 h
                            refine lv_iconst (v := 1) hx hb dL_types_155 (by decide) ?_
                            refine lv_goto (tgt := 160) hx hb dL_types_156 (by decide) ?_
                            refine lv_istore (lv' := [(4, .int (1 : Int32)), (0, .ref (ad 8)), (1, .ref (ad 30)), (5, .int v15), (6, .int v49)]) hx hb dL_types_160 hl (by decide) rfl (fun ls hl => ?_)
                            refine lv_iinc (v := (v49 + 1)) (lv' := [(6, .int (v49 + 1)), (4, .int (1 : Int32)), (0, .ref (ad 8)), (1, .ref (ad 30)), (5, .int v15)]) hx hb dL_types_162 hl (k := 4) rfl rfl (by decide) rfl (fun ls hl => ?_)
                            refine lv_goto (tgt := 89) hx hb dL_types_165 (by decide) ?_
                            exact ih _ _ _  (Or.inr rfl) H locs ls h hw (lv_sub hl [2, 3, 1, 4, 0] rfl)
                        replace h := h9
                        refine lv_if_ge (tgt := 144) hx hb dL_types_136 (by decide) (fun c76 => ?_) (fun c76 => ?_)
                        · replace h := it_t c76 h
                          refine lv_bipush (v := 48) hx hb dL_types_144 (by decide) ?_
                          refine lv_iload hx hb dL_types_146 (lv_at hl 0 rfl) ?_
                          refine lv_iadd hx hb dL_types_148 ?_
                          have e9 := Option.some.inj h
                          subst e9
                          exact hJ78 _ rfl  H locs ls hw (lv_sub hl [1, 2, 4, 5] rfl)
                        · replace h := it_f c76 h
                          refine lv_bipush (v := 46) hx hb dL_types_139 (by decide) ?_
                          refine lv_goto (tgt := 149) hx hb dL_types_141 (by decide) ?_
                          have e9 := Option.some.inj h
                          subst e9
                          exact hJ78 _ rfl  H locs ls hw (lv_sub hl [1, 2, 4, 5] rfl)
            exact hL54 600 _ _ _  z_v24 H locs ls h9 hw (lv_sub hl [2, 3, 1, 4, 0] rfl)
          replace h := h9
          refine lv_if_eq (tgt := 83) hx hb dL_types_49 (by decide) (fun c23 => ?_) (fun c23 => ?_)
          · replace h := it_t c23 h
            refine lv_iconst (v := 0) hx hb dL_types_83 (by decide) ?_
            have e9 := Option.some.inj h
            subst e9
            exact hJ26 _ _ rfl (Or.inl rfl) H locs ls hw (lv_sub hl [0, 1, 3] rfl)
          · replace h := it_f c23 h
            refine lv_iload hx hb dL_types_52 (lv_at hl 3 rfl) ?_
            refine lv_if_eq (tgt := 66) hx hb dL_types_54 (by decide) (fun c28 => ?_) (fun c28 => ?_)
            · replace h := it_t c28 h
              refine lv_aload_n hx hb dL_types_66 rfl (lv_at hl 0 rfl) ?_
              obtain ⟨⟨v29, σ30⟩, k31, h⟩ := it_b h
              refine kU_i (As := []) (rest := []) (q := 8) hx_E h30 hI hw (c_X6_fault l K ad hI30  σ16 k31) mi_X6_fault mv_X6_fault ml_L_68 (by decide) rfl rfl rfl ⟨⟨Nat.le_of_ble_eq_true rfl, Nat.le_of_ble_eq_true rfl⟩, rfl, rfl⟩ ⟨Nat.zero_le _, Nat.zero_le _⟩ hl.1 rfl (Nat.le_of_ble_eq_true rfl) dL_types_67 (fun H locs hw => ?_)
              obtain ⟨σ32, e_σ32, h⟩ := it_b h
              replace hw := PW_cast (Option.some.inj e_σ32) hw
              refine lv_aload_n hx hb dL_types_70 rfl (lv_at hl 0 rfl) ?_
              refine lv_bipush (v := 15) hx hb dL_types_71 (by decide) ?_
              obtain ⟨v33, k34, h⟩ := it_b h
              refine kUr_i (As := [.int (15 : Int32)]) (rest := [.int v29]) (q := 8) hx_E h30 hI hw (c_X6_count l K ad hI30 (15 : Int32) σ32 k34) mi_X6_count mv_X6_count ml_L_71 (by decide) rfl rfl rfl ⟨⟨Nat.le_of_ble_eq_true rfl, Nat.le_of_ble_eq_true rfl⟩, rfl, rfl⟩ ⟨Nat.zero_le _, Nat.zero_le _⟩ hl.1 rfl (Nat.le_of_ble_eq_true rfl) dL_types_73 (fun H locs hw => ?_)
              refine lv_icmp_ne (tgt := 83) hx hb dL_types_76 (by decide) (fun c35 => ?_) (fun c35 => ?_)
              · replace h := it_f c35 h
                refine lv_iconst (v := 0) hx hb dL_types_83 (by decide) ?_
                have e9 := Option.some.inj h
                subst e9
                exact hJ26 _ _ rfl (Or.inl rfl) H locs ls hw (lv_sub hl [0, 1, 3] rfl)
              · replace h := it_t c35 h
                refine lv_iconst (v := 1) hx hb dL_types_79 (by decide) ?_
                refine lv_goto (tgt := 84) hx hb dL_types_80 (by decide) ?_
                have e9 := Option.some.inj h
                subst e9
                exact hJ26 _ _ rfl (Or.inr rfl) H locs ls hw (lv_sub hl [0, 1, 3] rfl)
            · replace h := it_f c28 h
              refine lv_aload_n hx hb dL_types_57 rfl (lv_at hl 0 rfl) ?_
              refine lv_bipush (v := 47) hx hb dL_types_58 (by decide) ?_
              obtain ⟨⟨v36, σ37⟩, k38, h⟩ := it_b h
              refine kU_i (As := [.int (47 : Int32)]) (rest := []) (q := 8) hx_E h30 hI hw (c_X6_type l K ad hI30 (47 : Int32) σ16 k38) mi_X6_type mv_X6_type ml_L_64 (by decide) rfl rfl rfl ⟨⟨Nat.le_of_ble_eq_true rfl, Nat.le_of_ble_eq_true rfl⟩, rfl, rfl⟩ ⟨Nat.zero_le _, Nat.zero_le _⟩ hl.1 rfl (Nat.le_of_ble_eq_true rfl) dL_types_60 (fun H locs hw => ?_)
              obtain ⟨σ39, e_σ39, h⟩ := it_b h
              replace hw := PW_cast (Option.some.inj e_σ39) hw
              refine lv_if_le (tgt := 83) hx hb dL_types_63 (by decide) (fun c40 => ?_) (fun c40 => ?_)
              · replace h := it_t c40 h
                refine lv_iconst (v := 0) hx hb dL_types_83 (by decide) ?_
                have e9 := Option.some.inj h
                subst e9
                exact hJ26 _ _ rfl (Or.inl rfl) H locs ls hw (lv_sub hl [0, 1, 3] rfl)
              · replace h := it_f c40 h
                refine lv_aload_n hx hb dL_types_66 rfl (lv_at hl 0 rfl) ?_
                obtain ⟨⟨v41, σ42⟩, k43, h⟩ := it_b h
                refine kU_i (As := []) (rest := []) (q := 8) hx_E h30 hI hw (c_X6_fault l K ad hI30  σ39 k43) mi_X6_fault mv_X6_fault ml_L_68 (by decide) rfl rfl rfl ⟨⟨Nat.le_of_ble_eq_true rfl, Nat.le_of_ble_eq_true rfl⟩, rfl, rfl⟩ ⟨Nat.zero_le _, Nat.zero_le _⟩ hl.1 rfl (Nat.le_of_ble_eq_true rfl) dL_types_67 (fun H locs hw => ?_)
                obtain ⟨σ44, e_σ44, h⟩ := it_b h
                replace hw := PW_cast (Option.some.inj e_σ44) hw
                refine lv_aload_n hx hb dL_types_70 rfl (lv_at hl 0 rfl) ?_
                refine lv_bipush (v := 15) hx hb dL_types_71 (by decide) ?_
                obtain ⟨v45, k46, h⟩ := it_b h
                refine kUr_i (As := [.int (15 : Int32)]) (rest := [.int v41]) (q := 8) hx_E h30 hI hw (c_X6_count l K ad hI30 (15 : Int32) σ44 k46) mi_X6_count mv_X6_count ml_L_71 (by decide) rfl rfl rfl ⟨⟨Nat.le_of_ble_eq_true rfl, Nat.le_of_ble_eq_true rfl⟩, rfl, rfl⟩ ⟨Nat.zero_le _, Nat.zero_le _⟩ hl.1 rfl (Nat.le_of_ble_eq_true rfl) dL_types_73 (fun H locs hw => ?_)
                refine lv_icmp_ne (tgt := 83) hx hb dL_types_76 (by decide) (fun c47 => ?_) (fun c47 => ?_)
                · replace h := it_f c47 h
                  refine lv_iconst (v := 0) hx hb dL_types_83 (by decide) ?_
                  have e9 := Option.some.inj h
                  subst e9
                  exact hJ26 _ _ rfl (Or.inl rfl) H locs ls hw (lv_sub hl [0, 1, 3] rfl)
                · replace h := it_t c47 h
                  refine lv_iconst (v := 1) hx hb dL_types_79 (by decide) ?_
                  refine lv_goto (tgt := 84) hx hb dL_types_80 (by decide) ?_
                  have e9 := Option.some.inj h
                  subst e9
                  exact hJ26 _ _ rfl (Or.inr rfl) H locs ls hw (lv_sub hl [0, 1, 3] rfl)
    exact hL19 600 _ _ _  z_v6 H locs ls h9 hw (lv_sub hl [2, 3, 1, 0] rfl)
  replace h := h9
  refine lv_if_lt (tgt := 11) hx hb dL_types_4 (by decide) (fun c5 => ?_) (fun c5 => ?_)
  · replace h := it_t c5 h
    refine lv_iconst (v := 0) hx hb dL_types_11 (by decide) ?_
    have e9 := Option.some.inj h
    subst e9
    exact hJ7 _ rfl (Or.inl rfl) H locs ls hw (lv_sub hl [0, 1, 2, 3] rfl)
  · replace h := it_f c5 h
    refine lv_iconst (v := 1) hx hb dL_types_7 (by decide) ?_
    refine lv_goto (tgt := 12) hx hb dL_types_8 (by decide) ?_
    have e9 := Option.some.inj h
    subst e9
    exact hJ7 _ rfl (Or.inr rfl) H locs ls hw (lv_sub hl [0, 1, 2, 3] rfl)
