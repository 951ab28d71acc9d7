set_option maxHeartbeats 4000000 in
set_option maxRecDepth 100000 in
theorem c_X7_joins (l : Launch) (K : vK) (ad : Nat → Nat) (hI : adInj 12 ad) (σ : vSt) {σ' : vSt} (h : f_X7_joins σ = some σ') : MCv l yX7_joins (wsY yX7_joins cX7_joins 6 none) (rmF 4 69) K 12 ad (cM K ad) [.ref (ad 0)] σ σ' := by
  refine MCv_of (own := RX7) (plainFor_of_name (by decide)) hI rfl (Nat.le_of_ble_eq_true rfl) ?_
  intro p e s m args below meth c A Q hx_E hE H locs ls hw hl
  have hx := hx_E.1; have hb := hx_E.2.1; have hown := hx_E.2.2.2.1; have hts := hx_E.2.2.2.2.1
  replace hl : lv_has ls 6 [(0, .ref (ad 0))] := hl
  unfold f_X7_joins at h
  refine lv_aload_n hx hb dX7_joins_0 rfl (lv_at hl 0 rfl) ?_
  obtain ⟨v1, k2, h⟩ := it_b h
  refine kV_i (As := []) (rest := []) (q := 0) hx_E hw (c_X7_corners l K ad hI   σ k2) mi_X7_corners mv_X7_corners ml_X7_63 (by decide) rfl rfl rfl ⟨⟨Nat.le_of_ble_eq_true rfl, Nat.le_of_ble_eq_true rfl⟩, rfl, rfl⟩ ⟨Nat.zero_le _, Nat.zero_le _⟩ hl.1 rfl (Nat.le_of_ble_eq_true rfl) dX7_joins_1 (fun H locs hw => ?_)
  refine lv_istore_n (lv' := [(1, .int v1), (0, .ref (ad 0))]) hx hb dX7_joins_4 rfl hl (by decide) rfl (fun ls hl => ?_)
  refine lv_iconst (v := 0) hx hb dX7_joins_5 (by decide) ?_
  refine lv_istore_n (lv' := [(2, .int (0 : Int32)), (1, .int v1), (0, .ref (ad 0))]) hx hb dX7_joins_6 rfl hl (by decide) rfl (fun ls hl => ?_)
  obtain ⟨φ8, h9, h_φ8⟩ := it_b h
  have hJ7 : ∀ (σ5 : vSt), σ5 = φ8 → ∀ (H : Heap) (locs : List Loc) (ls : Array Slot), PW K 12 ad (cM K ad) A s.heap σ5 H locs → lv_has ls 6 [(0, .ref (ad 0)), (1, .int v1)] → W p l e (rmF 4 69) s m args below meth c H locs 0 0 Q (F0 m 39 ls []) := by
    intro σ5 e9 H locs ls hw hl
    subst e9
    replace h := h_φ8
    refine lv_aload_n hx hb dX7_joins_39 rfl (lv_at hl 0 rfl) ?_
    refine lv_iconst (v := 0) hx hb dX7_joins_40 (by decide) ?_
    refine pM_0_8 hx_E hw fl_X7_66 dX7_joins_41 (fun H locs hw => ?_)
    refine lv_aload_n hx hb dX7_joins_44 rfl (lv_at hl 0 rfl) ?_
    obtain ⟨v13, k14, h⟩ := it_b h
    refine kV_i (As := []) (rest := []) (q := 0) hx_E hw (c_X7_edges l K ad hI   (sI σ5 0 8 (0 : Int32)) k14) mi_X7_edges mv_X7_edges ml_X7_69 (by decide) rfl rfl rfl ⟨⟨Nat.le_of_ble_eq_true rfl, Nat.le_of_ble_eq_true rfl⟩, rfl, rfl⟩ ⟨Nat.zero_le _, Nat.zero_le _⟩ hl.1 rfl (Nat.le_of_ble_eq_true rfl) dX7_joins_45 (fun H locs hw => ?_)
    refine lv_istore_n (lv' := [(2, .int v13), (0, .ref (ad 0)), (1, .int v1)]) hx hb dX7_joins_48 rfl hl (by decide) rfl (fun ls hl => ?_)
    refine lv_iconst (v := 0) hx hb dX7_joins_49 (by decide) ?_
    refine lv_istore_n (lv' := [(3, .int (0 : Int32)), (2, .int v13), (0, .ref (ad 0)), (1, .int v1)]) hx hb dX7_joins_50 rfl hl (by decide) rfl (fun ls hl => ?_)
    obtain ⟨σ15, e_σ15, h⟩ := it_b h
    replace hw := PW_cast (Option.some.inj e_σ15) hw
    obtain ⟨φ21, h9, h_φ21⟩ := it_b h
    have hJ20 : ∀ (σ18 : vSt), σ18 = φ21 → ∀ (H : Heap) (locs : List Loc) (ls : Array Slot), PW K 12 ad (cM K ad) A s.heap σ18 H locs → lv_has ls 6 [(0, .ref (ad 0)), (1, .int v1), (2, .int v13)] → W p l e (rmF 4 69) s m args below meth c H locs 0 0 Q (F0 m 138 ls []) := by
      intro σ18 e9 H locs ls hw hl
      subst e9
      replace h := h_φ21
      refine lv_iconst (v := 0) hx hb dX7_joins_138 (by decide) ?_
      refine lv_istore_n (lv' := [(3, .int (0 : Int32)), (0, .ref (ad 0)), (1, .int v1), (2, .int v13)]) hx hb dX7_joins_139 rfl hl (by decide) rfl (fun ls hl => ?_)
      obtain ⟨φ48, h9, h_φ48⟩ := it_b h
      have hJ47 : ∀ (σ45 : vSt), σ45 = φ48 → ∀ (H : Heap) (locs : List Loc) (ls : Array Slot), PW K 12 ad (cM K ad) A s.heap σ45 H locs → lv_has ls 6 [(0, .ref (ad 0)), (1, .int v1)] → W p l e (rmF 4 69) s m args below meth c H locs 0 0 Q (F0 m 179 ls []) := by
        intro σ45 e9 H locs ls hw hl
        subst e9
        replace h := h_φ48
        refine lv_iconst (v := 0) hx hb dX7_joins_179 (by decide) ?_
        refine lv_istore_n (lv' := [(3, .int (0 : Int32)), (0, .ref (ad 0)), (1, .int v1)]) hx hb dX7_joins_180 rfl hl (by decide) rfl (fun ls hl => ?_)
        obtain ⟨φ64, h9, h_φ64⟩ := it_b h
        have hJ63 : ∀ (σ61 : vSt), σ61 = φ64 → ∀ (H : Heap) (locs : List Loc) (ls : Array Slot), PW K 12 ad (cM K ad) A s.heap σ61 H locs → lv_has ls 6 [] → W p l e (rmF 4 69) s m args below meth c H locs 0 0 Q (F0 m 239 ls []) := by
          intro σ61 e9 H locs ls hw hl
          subst e9
          replace h := h_φ64
          exact hE hw (Option.some.inj h) dX7_joins_239
        have hL62 : ∀ (n9 : Nat) (v59 : Int32) (σ60 : vSt), ∀ (H : Heap) (locs : List Loc) (ls : Array Slot), f_X7_joins_181 v1 n9 v59 σ60 = some φ64 → PW K 12 ad (cM K ad) A s.heap σ60 H locs → lv_has ls 6 [(0, .ref (ad 0)), (1, .int v1), (3, .int v59)] → W p l e (rmF 4 69) s m args below meth c H locs 0 0 Q (F0 m 181 ls []) := by
          intro n9
          induction n9 with
          | zero => intro v59 σ60 H locs ls h hw hl; rw [f_X7_joins_181.eq_1] at h; exact it_n h
          | succ n9 ih =>
            intro v59 σ60 H locs ls h hw hl
            rw [f_X7_joins_181.eq_2] at h
            refine lv_iload_n hx hb dX7_joins_181 rfl (lv_at hl 2 rfl) ?_
            refine lv_iload_n hx hb dX7_joins_182 rfl (lv_at hl 1 rfl) ?_
            refine lv_icmp_ge (tgt := 239) hx hb dX7_joins_183 (by decide) (fun c65 => ?_) (fun c65 => ?_)
            · replace h := it_t c65 h
              have e9 := Option.some.inj h
              subst e9
              exact hJ63 _ rfl  H locs ls hw (lv_sub hl [] rfl)
            · replace h := it_f c65 h
              refine lv_aload_n hx hb dX7_joins_186 rfl (lv_at hl 0 rfl) ?_
              refine lv_iload_n hx hb dX7_joins_187 rfl (lv_at hl 2 rfl) ?_
              refine lv_iconst (v := 1) hx hb dX7_joins_188 (by decide) ?_
              obtain ⟨v66, k67, h⟩ := it_b h
              refine kV_i (As := [.int v59, .int (1 : Int32)]) (rest := []) (q := 0) hx_E hw (c_X7_atWith l K ad hI  v59 (1 : Int32) σ60 k67) mi_X7_atWith mv_X7_atWith ml_X7_79 (by decide) rfl rfl rfl ⟨⟨Nat.le_of_ble_eq_true rfl, Nat.le_of_ble_eq_true rfl⟩, rfl, rfl⟩ ⟨Nat.zero_le _, Nat.zero_le _⟩ hl.1 rfl (Nat.le_of_ble_eq_true rfl) dX7_joins_189 (fun H locs hw => ?_)
              refine lv_istore (lv' := [(4, .int v66), (0, .ref (ad 0)), (1, .int v1), (3, .int v59)]) hx hb dX7_joins_192 hl (by decide) rfl (fun ls hl => ?_)
              refine lv_aload_n hx hb dX7_joins_194 rfl (lv_at hl 1 rfl) ?_
              refine gM_0_7 hx_E hw fl_X7_25 dX7_joins_195 ?_
              refine lv_aload_n hx hb dX7_joins_198 rfl (lv_at hl 1 rfl) ?_
              refine lv_iload_n hx hb dX7_joins_199 rfl (lv_at hl 3 rfl) ?_
              obtain ⟨v68, k69, h⟩ := it_b h
              refine kV_i (As := [.int v59]) (rest := [.ref (ad 6)]) (q := 0) hx_E hw (c_X7_top l K ad hI  v59 σ60 k69) mi_X7_top mv_X7_top ml_X7_76 (by decide) rfl rfl rfl ⟨⟨Nat.le_of_ble_eq_true rfl, Nat.le_of_ble_eq_true rfl⟩, rfl, rfl⟩ ⟨Nat.zero_le _, Nat.zero_le _⟩ hl.1 rfl (Nat.le_of_ble_eq_true rfl) dX7_joins_200 (fun H locs hw => ?_)
              refine lv_aload_n hx hb dX7_joins_203 rfl (lv_at hl 1 rfl) ?_
              refine gM_0_7 hx_E hw fl_X7_25 dX7_joins_204 ?_
              refine lv_aload_n hx hb dX7_joins_207 rfl (lv_at hl 1 rfl) ?_
              refine lv_iload_n hx hb dX7_joins_208 rfl (lv_at hl 3 rfl) ?_
              obtain ⟨v70, k71, h⟩ := it_b h
              refine kV_i (As := [.int v59]) (rest := [.ref (ad 6), .int v68, .ref (ad 6)]) (q := 0) hx_E hw (c_X7_top l K ad hI  v59 σ60 k71) mi_X7_top mv_X7_top ml_X7_76 (by decide) rfl rfl rfl ⟨⟨Nat.le_of_ble_eq_true rfl, Nat.le_of_ble_eq_true rfl⟩, rfl, rfl⟩ ⟨Nat.zero_le _, Nat.zero_le _⟩ hl.1 rfl (Nat.le_of_ble_eq_true rfl) dX7_joins_209 (fun H locs hw => ?_)
              obtain ⟨g72, h⟩ := it_g h
              refine aM_6 hx_E hw g72 dX7_joins_212 ?_
              refine lv_if_ne (tgt := 227) hx hb dX7_joins_213 (by decide) (fun c73 => ?_) (fun c73 => ?_)
              · replace h := it_f c73 h
                refine lv_iconst (v := 1) hx hb dX7_joins_227 (by decide) ?_
                refine lv_goto (tgt := 232) hx hb dX7_joins_228 (by decide) ?_
                obtain ⟨g74, h⟩ := it_g h
                refine sM_6 hx_E hw g74 dX7_joins_232 (fun H locs hw => ?_)
                refine lv_iinc (v := (v59 + 1)) (lv' := [(3, .int (v59 + 1)), (4, .int v66), (0, .ref (ad 0)), (1, .int v1)]) hx hb dX7_joins_233 hl (k := 3) rfl rfl (by decide) rfl (fun ls hl => ?_)
                refine lv_goto (tgt := 181) hx hb dX7_joins_236 (by decide) ?_
                exact ih _ _  H locs ls h hw (lv_sub hl [2, 3, 0] rfl)
              · replace h := it_t c73 h
                refine lv_iload hx hb dX7_joins_216 (lv_at hl 0 rfl) ?_
                refine lv_if_eq (tgt := 231) hx hb dX7_joins_218 (by decide) (fun c75 => ?_) (fun c75 => ?_)
                · replace h := it_t c75 h
                  refine lv_iconst (v := 0) hx hb dX7_joins_231 (by decide) ?_
                  obtain ⟨g76, h⟩ := it_g h
                  refine sM_6 hx_E hw g76 dX7_joins_232 (fun H locs hw => ?_)
                  refine lv_iinc (v := (v59 + 1)) (lv' := [(3, .int (v59 + 1)), (4, .int v66), (0, .ref (ad 0)), (1, .int v1)]) hx hb dX7_joins_233 hl (k := 3) rfl rfl (by decide) rfl (fun ls hl => ?_)
                  refine lv_goto (tgt := 181) hx hb dX7_joins_236 (by decide) ?_
                  exact ih _ _  H locs ls h hw (lv_sub hl [2, 3, 0] rfl)
                · replace h := it_f c75 h
                  refine lv_iload hx hb dX7_joins_221 (lv_at hl 0 rfl) ?_
                  refine lv_iconst (v := 2) hx hb dX7_joins_223 (by decide) ?_
                  refine lv_icmp_eq (tgt := 231) hx hb dX7_joins_224 (by decide) (fun c77 => ?_) (fun c77 => ?_)
                  · replace h := it_t c77 h
                    refine lv_iconst (v := 0) hx hb dX7_joins_231 (by decide) ?_
                    obtain ⟨g78, h⟩ := it_g h
                    refine sM_6 hx_E hw g78 dX7_joins_232 (fun H locs hw => ?_)
                    refine lv_iinc (v := (v59 + 1)) (lv' := [(3, .int (v59 + 1)), (4, .int v66), (0, .ref (ad 0)), (1, .int v1)]) hx hb dX7_joins_233 hl (k := 3) rfl rfl (by decide) rfl (fun ls hl => ?_)
                    refine lv_goto (tgt := 181) hx hb dX7_joins_236 (by decide) ?_
                    exact ih _ _  H locs ls h hw (lv_sub hl [2, 3, 0] rfl)
                  · replace h := it_f c77 h
                    refine lv_iconst (v := 1) hx hb dX7_joins_227 (by decide) ?_
                    refine lv_goto (tgt := 232) hx hb dX7_joins_228 (by decide) ?_
                    obtain ⟨g79, h⟩ := it_g h
                    refine sM_6 hx_E hw g79 dX7_joins_232 (fun H locs hw => ?_)
                    refine lv_iinc (v := (v59 + 1)) (lv' := [(3, .int (v59 + 1)), (4, .int v66), (0, .ref (ad 0)), (1, .int v1)]) hx hb dX7_joins_233 hl (k := 3) rfl rfl (by decide) rfl (fun ls hl => ?_)
                    refine lv_goto (tgt := 181) hx hb dX7_joins_236 (by decide) ?_
                    exact ih _ _  H locs ls h hw (lv_sub hl [2, 3, 0] rfl)
        exact hL62 600 _ _  H locs ls h9 hw (lv_sub hl [1, 2, 0] rfl)
      have hL46 : ∀ (n9 : Nat) (v43 : Int32) (σ44 : vSt), ∀ (H : Heap) (locs : List Loc) (ls : Array Slot), f_X7_joins_140 v13 n9 v43 σ44 = some φ48 → PW K 12 ad (cM K ad) A s.heap σ44 H locs → lv_has ls 6 [(0, .ref (ad 0)), (1, .int v1), (2, .int v13), (3, .int v43)] → W p l e (rmF 4 69) s m args below meth c H locs 0 0 Q (F0 m 140 ls []) := by
        intro n9
        induction n9 with
        | zero => intro v43 σ44 H locs ls h hw hl; rw [f_X7_joins_140.eq_1] at h; exact it_n h
        | succ n9 ih =>
          intro v43 σ44 H locs ls h hw hl
          rw [f_X7_joins_140.eq_2] at h
          refine lv_iload_n hx hb dX7_joins_140 rfl (lv_at hl 3 rfl) ?_
          refine lv_iload_n hx hb dX7_joins_141 rfl (lv_at hl 2 rfl) ?_
          refine lv_icmp_ge (tgt := 179) hx hb dX7_joins_142 (by decide) (fun c49 => ?_) (fun c49 => ?_)
          · replace h := it_t c49 h
            have e9 := Option.some.inj h
            subst e9
            exact hJ47 _ rfl  H locs ls hw (lv_sub hl [0, 1] rfl)
          · replace h := it_f c49 h
            refine lv_aload_n hx hb dX7_joins_145 rfl (lv_at hl 0 rfl) ?_
            refine lv_iload_n hx hb dX7_joins_146 rfl (lv_at hl 3 rfl) ?_
            obtain ⟨v50, k51, h⟩ := it_b h
            refine kV_i (As := [.int v43]) (rest := []) (q := 0) hx_E hw (c_X7_markOf l K ad hI  v43 σ44 k51) mi_X7_markOf mv_X7_markOf ml_X7_56 (by decide) rfl rfl rfl ⟨⟨Nat.le_of_ble_eq_true rfl, Nat.le_of_ble_eq_true rfl⟩, rfl, rfl⟩ ⟨Nat.zero_le _, Nat.zero_le _⟩ hl.1 rfl (Nat.le_of_ble_eq_true rfl) dX7_joins_147 (fun H locs hw => ?_)
            refine lv_iconst (v := 1) hx hb dX7_joins_150 (by decide) ?_
            refine lv_icmp_ne (tgt := 173) hx hb dX7_joins_151 (by decide) (fun c52 => ?_) (fun c52 => ?_)
            · replace h := it_f c52 h
              refine lv_iinc (v := (v43 + 1)) (lv' := [(3, .int (v43 + 1)), (0, .ref (ad 0)), (1, .int v1), (2, .int v13)]) hx hb dX7_joins_173 hl (k := 3) rfl rfl (by decide) rfl (fun ls hl => ?_)
              refine lv_goto (tgt := 140) hx hb dX7_joins_176 (by decide) ?_
              exact ih _ _  H locs ls h hw (lv_sub hl [1, 2, 3, 0] rfl)
            · replace h := it_t c52 h
              refine lv_aload_n hx hb dX7_joins_154 rfl (lv_at hl 0 rfl) ?_
              refine gM_0_6 hx_E hw fl_X7_22 dX7_joins_155 ?_
              refine lv_aload_n hx hb dX7_joins_158 rfl (lv_at hl 0 rfl) ?_
              refine lv_aload_n hx hb dX7_joins_159 rfl (lv_at hl 0 rfl) ?_
              refine lv_iload_n hx hb dX7_joins_160 rfl (lv_at hl 3 rfl) ?_
              refine lv_iconst (v := 0) hx hb dX7_joins_161 (by decide) ?_
              obtain ⟨v53, k54, h⟩ := it_b h
              refine kV_i (As := [.int v43, .int (0 : Int32)]) (rest := [.ref (ad 0), .ref (ad 5)]) (q := 0) hx_E hw (c_X7_end l K ad hI  v43 (0 : Int32) σ44 k54) mi_X7_end mv_X7_end ml_X7_72 (by decide) rfl rfl rfl ⟨⟨Nat.le_of_ble_eq_true rfl, Nat.le_of_ble_eq_true rfl⟩, rfl, rfl⟩ ⟨Nat.zero_le _, Nat.zero_le _⟩ hl.1 rfl (Nat.le_of_ble_eq_true rfl) dX7_joins_162 (fun H locs hw => ?_)
              obtain ⟨v55, k56, h⟩ := it_b h
              refine kV_i (As := [.int v53]) (rest := [.ref (ad 5)]) (q := 0) hx_E hw (c_X7_top l K ad hI  v53 σ44 k56) mi_X7_top mv_X7_top ml_X7_76 (by decide) rfl rfl rfl ⟨⟨Nat.le_of_ble_eq_true rfl, Nat.le_of_ble_eq_true rfl⟩, rfl, rfl⟩ ⟨Nat.zero_le _, Nat.zero_le _⟩ hl.1 rfl (Nat.le_of_ble_eq_true rfl) dX7_joins_165 (fun H locs hw => ?_)
              refine lv_dup2_11 hx hb dX7_joins_168 rfl rfl ?_
              obtain ⟨g57, h⟩ := it_g h
              refine aM_5 hx_E hw g57 dX7_joins_169 ?_
              refine lv_iconst (v := 1) hx hb dX7_joins_170 (by decide) ?_
              refine lv_iadd hx hb dX7_joins_171 ?_
              obtain ⟨g58, h⟩ := it_g h
              refine sM_5 hx_E hw g58 dX7_joins_172 (fun H locs hw => ?_)
              refine lv_iinc (v := (v43 + 1)) (lv' := [(3, .int (v43 + 1)), (0, .ref (ad 0)), (1, .int v1), (2, .int v13)]) hx hb dX7_joins_173 hl (k := 3) rfl rfl (by decide) rfl (fun ls hl => ?_)
              refine lv_goto (tgt := 140) hx hb dX7_joins_176 (by decide) ?_
              exact ih _ _  H locs ls h hw (lv_sub hl [1, 2, 3, 0] rfl)
      exact hL46 600 _ _  H locs ls h9 hw (lv_sub hl [1, 2, 3, 0] rfl)
    have hL19 : ∀ (n9 : Nat) (v16 : Int32) (σ17 : vSt), ∀ (H : Heap) (locs : List Loc) (ls : Array Slot), f_X7_joins_51 v13 n9 v16 σ17 = some φ21 → PW K 12 ad (cM K ad) A s.heap σ17 H locs → lv_has ls 6 [(0, .ref (ad 0)), (1, .int v1), (2, .int v13), (3, .int v16)] → W p l e (rmF 4 69) s m args below meth c H locs 0 0 Q (F0 m 51 ls []) := by
      intro n9
      induction n9 with
      | zero => intro v16 σ17 H locs ls h hw hl; rw [f_X7_joins_51.eq_1] at h; exact it_n h
      | succ n9 ih =>
        intro v16 σ17 H locs ls h hw hl
        rw [f_X7_joins_51.eq_2] at h
        refine lv_iload_n hx hb dX7_joins_51 rfl (lv_at hl 3 rfl) ?_
        refine lv_iload_n hx hb dX7_joins_52 rfl (lv_at hl 2 rfl) ?_
        refine lv_icmp_ge (tgt := 138) hx hb dX7_joins_53 (by decide) (fun c22 => ?_) (fun c22 => ?_)
        · replace h := it_t c22 h
          have e9 := Option.some.inj h
          subst e9
          exact hJ20 _ rfl  H locs ls hw (lv_sub hl [0, 1, 2] rfl)
        · replace h := it_f c22 h
          refine lv_aload_n hx hb dX7_joins_56 rfl (lv_at hl 0 rfl) ?_
          refine lv_iload_n hx hb dX7_joins_57 rfl (lv_at hl 3 rfl) ?_
          obtain ⟨v23, k24, h⟩ := it_b h
          refine kV_i (As := [.int v16]) (rest := []) (q := 0) hx_E hw (c_X7_markOf l K ad hI  v16 σ17 k24) mi_X7_markOf mv_X7_markOf ml_X7_56 (by decide) rfl rfl rfl ⟨⟨Nat.le_of_ble_eq_true rfl, Nat.le_of_ble_eq_true rfl⟩, rfl, rfl⟩ ⟨Nat.zero_le _, Nat.zero_le _⟩ hl.1 rfl (Nat.le_of_ble_eq_true rfl) dX7_joins_58 (fun H locs hw => ?_)
          refine lv_iconst (v := 1) hx hb dX7_joins_61 (by decide) ?_
          refine lv_icmp_ne (tgt := 132) hx hb dX7_joins_62 (by decide) (fun c25 => ?_) (fun c25 => ?_)
          · replace h := it_f c25 h
            refine lv_iinc (v := (v16 + 1)) (lv' := [(3, .int (v16 + 1)), (0, .ref (ad 0)), (1, .int v1), (2, .int v13)]) hx hb dX7_joins_132 hl (k := 3) rfl rfl (by decide) rfl (fun ls hl => ?_)
            refine lv_goto (tgt := 51) hx hb dX7_joins_135 (by decide) ?_
            exact ih _ _  H locs ls h hw (lv_sub hl [1, 2, 3, 0] rfl)
          · replace h := it_t c25 h
            refine lv_aload_n hx hb dX7_joins_65 rfl (lv_at hl 0 rfl) ?_
            refine lv_aload_n hx hb dX7_joins_66 rfl (lv_at hl 0 rfl) ?_
            refine lv_iload_n hx hb dX7_joins_67 rfl (lv_at hl 3 rfl) ?_
            refine lv_iconst (v := 0) hx hb dX7_joins_68 (by decide) ?_
            obtain ⟨v26, k27, h⟩ := it_b h
            refine kV_i (As := [.int v16, .int (0 : Int32)]) (rest := [.ref (ad 0)]) (q := 0) hx_E hw (c_X7_end l K ad hI  v16 (0 : Int32) σ17 k27) mi_X7_end mv_X7_end ml_X7_72 (by decide) rfl rfl rfl ⟨⟨Nat.le_of_ble_eq_true rfl, Nat.le_of_ble_eq_true rfl⟩, rfl, rfl⟩ ⟨Nat.zero_le _, Nat.zero_le _⟩ hl.1 rfl (Nat.le_of_ble_eq_true rfl) dX7_joins_69 (fun H locs hw => ?_)
            obtain ⟨v28, k29, h⟩ := it_b h
            refine kV_i (As := [.int v26]) (rest := []) (q := 0) hx_E hw (c_X7_top l K ad hI  v26 σ17 k29) mi_X7_top mv_X7_top ml_X7_76 (by decide) rfl rfl rfl ⟨⟨Nat.le_of_ble_eq_true rfl, Nat.le_of_ble_eq_true rfl⟩, rfl, rfl⟩ ⟨Nat.zero_le _, Nat.zero_le _⟩ hl.1 rfl (Nat.le_of_ble_eq_true rfl) dX7_joins_72 (fun H locs hw => ?_)
            refine lv_istore (lv' := [(4, .int v28), (0, .ref (ad 0)), (1, .int v1), (2, .int v13), (3, .int v16)]) hx hb dX7_joins_75 hl (by decide) rfl (fun ls hl => ?_)
            refine lv_aload_n hx hb dX7_joins_77 rfl (lv_at hl 1 rfl) ?_
            refine lv_aload_n hx hb dX7_joins_78 rfl (lv_at hl 1 rfl) ?_
            refine lv_iload_n hx hb dX7_joins_79 rfl (lv_at hl 4 rfl) ?_
            refine lv_iconst (v := 1) hx hb dX7_joins_80 (by decide) ?_
            obtain ⟨v30, k31, h⟩ := it_b h
            refine kV_i (As := [.int v16, .int (1 : Int32)]) (rest := [.ref (ad 0)]) (q := 0) hx_E hw (c_X7_end l K ad hI  v16 (1 : Int32) σ17 k31) mi_X7_end mv_X7_end ml_X7_72 (by decide) rfl rfl rfl ⟨⟨Nat.le_of_ble_eq_true rfl, Nat.le_of_ble_eq_true rfl⟩, rfl, rfl⟩ ⟨Nat.zero_le _, Nat.zero_le _⟩ hl.1 rfl (Nat.le_of_ble_eq_true rfl) dX7_joins_81 (fun H locs hw => ?_)
            obtain ⟨v32, k33, h⟩ := it_b h
            refine kV_i (As := [.int v30]) (rest := []) (q := 0) hx_E hw (c_X7_top l K ad hI  v30 σ17 k33) mi_X7_top mv_X7_top ml_X7_76 (by decide) rfl rfl rfl ⟨⟨Nat.le_of_ble_eq_true rfl, Nat.le_of_ble_eq_true rfl⟩, rfl, rfl⟩ ⟨Nat.zero_le _, Nat.zero_le _⟩ hl.1 rfl (Nat.le_of_ble_eq_true rfl) dX7_joins_84 (fun H locs hw => ?_)
            refine lv_istore (lv' := [(5, .int v32), (4, .int v28), (0, .ref (ad 0)), (1, .int v1), (2, .int v13), (3, .int v16)]) hx hb dX7_joins_87 hl (by decide) rfl (fun ls hl => ?_)
            refine lv_aload_n hx hb dX7_joins_89 rfl (lv_at hl 2 rfl) ?_
            refine gM_0_5 hx_E hw fl_X7_19 dX7_joins_90 ?_
            refine lv_iload hx hb dX7_joins_93 (lv_at hl 1 rfl) ?_
            refine lv_iload hx hb dX7_joins_95 (lv_at hl 0 rfl) ?_
            obtain ⟨φ37, h9, h_φ37⟩ := it_b h
            have hJ36 : ∀ (v35 : Int32), v35 = φ37 → ∀ (H : Heap) (locs : List Loc) (ls : Array Slot), PW K 12 ad (cM K ad) A s.heap σ17 H locs → lv_has ls 6 [(0, .ref (ad 0)), (1, .int v1), (2, .int v13), (3, .int v16), (4, .int v28), (5, .int v32)] → W p l e (rmF 4 69) s m args below meth c H locs 0 0 Q (F0 m 107 ls [.int v35, .ref (ad 4)]) := by
              intro v35 e9 H locs ls hw hl
              subst e9
              replace h := h_φ37
              refine lv_iload hx hb dX7_joins_107 (lv_at hl 4 rfl) ?_
              refine lv_iload hx hb dX7_joins_109 (lv_at hl 5 rfl) ?_
              obtain ⟨φ41, h9, h_φ41⟩ := it_b h
              have hJ40 : ∀ (v39 : Int32), v39 = φ41 → ∀ (H : Heap) (locs : List Loc) (ls : Array Slot), PW K 12 ad (cM K ad) A s.heap σ17 H locs → lv_has ls 6 [(0, .ref (ad 0)), (1, .int v1), (2, .int v13), (3, .int v16)] → W p l e (rmF 4 69) s m args below meth c H locs 0 0 Q (F0 m 121 ls [.int v39, .int v35, .ref (ad 4)]) := by
                intro v39 e9 H locs ls hw hl
                subst e9
                replace h := h_φ41
                obtain ⟨g42, h⟩ := it_g h
                refine sM_4 hx_E hw g42 dX7_joins_121 (fun H locs hw => ?_)
                refine lv_aload_n hx hb dX7_joins_122 rfl (lv_at hl 0 rfl) ?_
                refine lv_dup hx hb dX7_joins_123 rfl ?_
                refine gM_0_8 hx_E hw fl_X7_66 dX7_joins_124 ?_
                refine lv_iconst (v := 1) hx hb dX7_joins_127 (by decide) ?_
                refine lv_iadd hx hb dX7_joins_128 ?_
                refine pM_0_8 hx_E hw fl_X7_66 dX7_joins_129 (fun H locs hw => ?_)
                refine lv_iinc (v := (v16 + 1)) (lv' := [(3, .int (v16 + 1)), (0, .ref (ad 0)), (1, .int v1), (2, .int v13)]) hx hb dX7_joins_132 hl (k := 3) rfl rfl (by decide) rfl (fun ls hl => ?_)
                refine lv_goto (tgt := 51) hx hb dX7_joins_135 (by decide) ?_
                exact ih _ _  H locs ls h hw (lv_sub hl [1, 2, 3, 0] rfl)
              replace h := h9
              refine lv_icmp_le (tgt := 119) hx hb dX7_joins_111 (by decide) (fun c38 => ?_) (fun c38 => ?_)
              · replace h := it_t c38 h
                refine lv_iload hx hb dX7_joins_119 (lv_at hl 4 rfl) ?_
                have e9 := Option.some.inj h
                subst e9
                exact hJ40 _ rfl  H locs ls hw (lv_sub hl [0, 1, 2, 3] rfl)
              · replace h := it_f c38 h
                refine lv_iload hx hb dX7_joins_114 (lv_at hl 5 rfl) ?_
                refine lv_goto (tgt := 121) hx hb dX7_joins_116 (by decide) ?_
                have e9 := Option.some.inj h
                subst e9
                exact hJ40 _ rfl  H locs ls hw (lv_sub hl [0, 1, 2, 3] rfl)
            replace h := h9
            refine lv_icmp_le (tgt := 105) hx hb dX7_joins_97 (by decide) (fun c34 => ?_) (fun c34 => ?_)
            · replace h := it_t c34 h
              refine lv_iload hx hb dX7_joins_105 (lv_at hl 0 rfl) ?_
              have e9 := Option.some.inj h
              subst e9
              exact hJ36 _ rfl  H locs ls hw (lv_sub hl [2, 3, 4, 5, 1, 0] rfl)
            · replace h := it_f c34 h
              refine lv_iload hx hb dX7_joins_100 (lv_at hl 1 rfl) ?_
              refine lv_goto (tgt := 107) hx hb dX7_joins_102 (by decide) ?_
              have e9 := Option.some.inj h
              subst e9
              exact hJ36 _ rfl  H locs ls hw (lv_sub hl [2, 3, 4, 5, 1, 0] rfl)
    exact hL19 600 _ _  H locs ls h9 hw (lv_sub hl [2, 3, 1, 0] rfl)
  have hL6 : ∀ (n9 : Nat) (v3 : Int32) (σ4 : vSt), ∀ (H : Heap) (locs : List Loc) (ls : Array Slot), f_X7_joins_7 v1 n9 v3 σ4 = some φ8 → PW K 12 ad (cM K ad) A s.heap σ4 H locs → lv_has ls 6 [(0, .ref (ad 0)), (1, .int v1), (2, .int v3)] → W p l e (rmF 4 69) s m args below meth c H locs 0 0 Q (F0 m 7 ls []) := by
    intro n9
    induction n9 with
    | zero => intro v3 σ4 H locs ls h hw hl; rw [f_X7_joins_7.eq_1] at h; exact it_n h
    | succ n9 ih =>
      intro v3 σ4 H locs ls h hw hl
      rw [f_X7_joins_7.eq_2] at h
      refine lv_iload_n hx hb dX7_joins_7 rfl (lv_at hl 2 rfl) ?_
      refine lv_iload_n hx hb dX7_joins_8 rfl (lv_at hl 1 rfl) ?_
      refine lv_icmp_ge (tgt := 39) hx hb dX7_joins_9 (by decide) (fun c9 => ?_) (fun c9 => ?_)
      · replace h := it_t c9 h
        have e9 := Option.some.inj h
        subst e9
        exact hJ7 _ rfl  H locs ls hw (lv_sub hl [0, 1] rfl)
      · replace h := it_f c9 h
        refine lv_aload_n hx hb dX7_joins_12 rfl (lv_at hl 0 rfl) ?_
        refine gM_0_5 hx_E hw fl_X7_19 dX7_joins_13 ?_
        refine lv_iload_n hx hb dX7_joins_16 rfl (lv_at hl 2 rfl) ?_
        refine lv_iload_n hx hb dX7_joins_17 rfl (lv_at hl 2 rfl) ?_
        obtain ⟨g10, h⟩ := it_g h
        refine sM_4 hx_E hw g10 dX7_joins_18 (fun H locs hw => ?_)
        refine lv_aload_n hx hb dX7_joins_19 rfl (lv_at hl 0 rfl) ?_
        refine gM_0_6 hx_E hw fl_X7_22 dX7_joins_20 ?_
        refine lv_iload_n hx hb dX7_joins_23 rfl (lv_at hl 2 rfl) ?_
        refine lv_iconst (v := 0) hx hb dX7_joins_24 (by decide) ?_
        obtain ⟨g11, h⟩ := it_g h
        refine sM_5 hx_E hw g11 dX7_joins_25 (fun H locs hw => ?_)
        refine lv_aload_n hx hb dX7_joins_26 rfl (lv_at hl 0 rfl) ?_
        refine gM_0_7 hx_E hw fl_X7_25 dX7_joins_27 ?_
        refine lv_iload_n hx hb dX7_joins_30 rfl (lv_at hl 2 rfl) ?_
        refine lv_iconst (v := 0) hx hb dX7_joins_31 (by decide) ?_
        obtain ⟨g12, h⟩ := it_g h
        refine sM_6 hx_E hw g12 dX7_joins_32 (fun H locs hw => ?_)
        refine lv_iinc (v := (v3 + 1)) (lv' := [(2, .int (v3 + 1)), (0, .ref (ad 0)), (1, .int v1)]) hx hb dX7_joins_33 hl (k := 2) rfl rfl (by decide) rfl (fun ls hl => ?_)
        refine lv_goto (tgt := 7) hx hb dX7_joins_36 (by decide) ?_
        exact ih _ _  H locs ls h hw (lv_sub hl [1, 2, 0] rfl)
  exact hL6 600 _ _  H locs ls h9 hw (lv_sub hl [2, 1, 0] rfl)
set_option maxHeartbeats 4000000 in
set_option maxRecDepth 100000 in
theorem c_X7_isRing (l : Launch) (K : vK) (ad : Nat → Nat) (hI : adInj 12 ad) (l1 : Int32) (σ : vSt) {r : Int32} (h : f_X7_isRing l1 σ = some r) : MCz l yX7_isRing (wsY yX7_isRing cX7_isRing 2 (some .boolean)) (rmF 1 0) K 12 ad (cM K ad) [.ref (ad 0), .int l1] σ r σ := by
  refine MCz_of (own := RX7) (plainFor_of_name (by decide)) hI rfl (Nat.le_of_ble_eq_true rfl) ?_
  intro p e s m args below meth c A Q hx_E hE H locs ls hw hl
  have hx := hx_E.1; have hb := hx_E.2.1; have hown := hx_E.2.2.2.1; have hts := hx_E.2.2.2.2.1
  replace hl : lv_has ls 2 [(0, .ref (ad 0)), (1, .int l1)] := hl
  unfold f_X7_isRing at h
  refine lv_aload_n hx hb dX7_isRing_0 rfl (lv_at hl 0 rfl) ?_
  refine gM_0_6 hx_E hw fl_X7_22 dX7_isRing_1 ?_
  refine lv_iload_n hx hb dX7_isRing_4 rfl (lv_at hl 1 rfl) ?_
  obtain ⟨g1, h⟩ := it_g h
  refine aM_5 hx_E hw g1 dX7_isRing_5 ?_
  refine lv_if_le (tgt := 22) hx hb dX7_isRing_6 (by decide) (fun c2 => ?_) (fun c2 => ?_)
  · replace h := it_t c2 h
    refine lv_iconst (v := 0) hx hb dX7_isRing_22 (by decide) ?_
    exact hE hw (Option.some.inj h) rfl (Or.inl rfl) dX7_isRing_23
  · replace h := it_f c2 h
    refine lv_aload_n hx hb dX7_isRing_9 rfl (lv_at hl 0 rfl) ?_
    refine gM_0_7 hx_E hw fl_X7_25 dX7_isRing_10 ?_
    refine lv_iload_n hx hb dX7_isRing_13 rfl (lv_at hl 1 rfl) ?_
    obtain ⟨g3, h⟩ := it_g h
    refine aM_6 hx_E hw g3 dX7_isRing_14 ?_
    refine lv_if_ne (tgt := 22) hx hb dX7_isRing_15 (by decide) (fun c4 => ?_) (fun c4 => ?_)
    · replace h := it_f c4 h
      refine lv_iconst (v := 0) hx hb dX7_isRing_22 (by decide) ?_
      exact hE hw (Option.some.inj h) rfl (Or.inl rfl) dX7_isRing_23
    · replace h := it_t c4 h
      refine lv_iconst (v := 1) hx hb dX7_isRing_18 (by decide) ?_
      refine lv_goto (tgt := 23) hx hb dX7_isRing_19 (by decide) ?_
      exact hE hw (Option.some.inj h) rfl (Or.inr rfl) dX7_isRing_23
set_option maxHeartbeats 4000000 in
set_option maxRecDepth 100000 in
theorem c_X7_areMet (l : Launch) (K : vK) (ad : Nat → Nat) (hI : adInj 12 ad) (σ : vSt) {r : Int32} (h : f_X7_areMet σ = some r) : MCz l yX7_areMet (wsY yX7_areMet cX7_areMet 3 (some .boolean)) (rmF 4 68) K 12 ad (cM K ad) [.ref (ad 0)] σ r σ := by
  refine MCz_of (own := RX7) (plainFor_of_name (by decide)) hI rfl (Nat.le_of_ble_eq_true rfl) ?_
  intro p e s m args below meth c A Q hx_E hE H locs ls hw hl
  have hx := hx_E.1; have hb := hx_E.2.1; have hown := hx_E.2.2.2.1; have hts := hx_E.2.2.2.2.1
  replace hl : lv_has ls 3 [(0, .ref (ad 0))] := hl
  unfold f_X7_areMet at h
  refine lv_iconst (v := 1) hx hb dX7_areMet_0 (by decide) ?_
  refine lv_istore_n (lv' := [(1, .int (1 : Int32)), (0, .ref (ad 0))]) hx hb dX7_areMet_1 rfl hl (by decide) rfl (fun ls hl => ?_)
  refine lv_iconst (v := 0) hx hb dX7_areMet_2 (by decide) ?_
  refine lv_istore_n (lv' := [(2, .int (0 : Int32)), (1, .int (1 : Int32)), (0, .ref (ad 0))]) hx hb dX7_areMet_3 rfl hl (by decide) rfl (fun ls hl => ?_)
  obtain ⟨φ6, h9, h_φ6⟩ := it_b h
  have hJ5 : ∀ (v3 : Int32), v3 = φ6 → (v3 = 0 ∨ v3 = 1) → ∀ (H : Heap) (locs : List Loc) (ls : Array Slot), PW K 12 ad (cM K ad) A s.heap σ H locs → lv_has ls 3 [(1, .int v3)] → W p l e (rmF 4 68) s m args below meth c H locs 0 0 Q (F0 m 57 ls []) := by
    intro v3 e9 z_v3 H locs ls hw hl
    subst e9
    replace h := h_φ6
    refine lv_iload_n hx hb dX7_areMet_57 rfl (lv_at hl 0 rfl) ?_
    exact hE hw (Option.some.inj h) rfl z_v3 dX7_areMet_58
  have hL4 : ∀ (n9 : Nat) (v1 : Int32) (v2 : Int32), (v1 = 0 ∨ v1 = 1) → ∀ (H : Heap) (locs : List Loc) (ls : Array Slot), f_X7_areMet_4 σ n9 v1 v2 = some φ6 → PW K 12 ad (cM K ad) A s.heap σ H locs → lv_has ls 3 [(0, .ref (ad 0)), (1, .int v1), (2, .int v2)] → W p l e (rmF 4 68) s m args below meth c H locs 0 0 Q (F0 m 4 ls []) := by
    intro n9
    induction n9 with
    | zero => intro v1 v2 z_v1 H locs ls h hw hl; rw [f_X7_areMet_4.eq_1] at h; exact it_n h
    | succ n9 ih =>
      intro v1 v2 z_v1 H locs ls h hw hl
      rw [f_X7_areMet_4.eq_2] at h
      refine lv_iload_n hx hb dX7_areMet_4 rfl (lv_at hl 2 rfl) ?_
      refine lv_aload_n hx hb dX7_areMet_5 rfl (lv_at hl 0 rfl) ?_
      obtain ⟨v7, k8, h⟩ := it_b h
      refine kV_i (As := []) (rest := [.int v2]) (q := 0) hx_E hw (c_X7_cells l K ad hI   σ k8) mi_X7_cells mv_X7_cells ml_X7_82 (by decide) rfl rfl rfl ⟨⟨Nat.le_of_ble_eq_true rfl, Nat.le_of_ble_eq_true rfl⟩, rfl, rfl⟩ ⟨Nat.zero_le _, Nat.zero_le _⟩ hl.1 rfl (Nat.le_of_ble_eq_true rfl) dX7_areMet_6 (fun H locs hw => ?_)
      refine lv_icmp_ge (tgt := 57) hx hb dX7_areMet_9 (by decide) (fun c9 => ?_) (fun c9 => ?_)
      · replace h := it_t c9 h
        have e9 := Option.some.inj h
        subst e9
        exact hJ5 _ rfl z_v1 H locs ls hw (lv_sub hl [1] rfl)
      · replace h := it_f c9 h
        refine lv_iload_n hx hb dX7_areMet_12 rfl (lv_at hl 1 rfl) ?_
        refine lv_if_eq (tgt := 57) hx hb dX7_areMet_13 (by decide) (fun c10 => ?_) (fun c10 => ?_)
        · replace h := it_t c10 h
          have e9 := Option.some.inj h
          subst e9
          exact hJ5 _ rfl z_v1 H locs ls hw (lv_sub hl [1] rfl)
        · replace h := it_f c10 h
          refine lv_aload_n hx hb dX7_areMet_16 rfl (lv_at hl 0 rfl) ?_
          refine gM_0_0 hx_E hw fl_X7_7 dX7_areMet_17 ?_
          refine lv_iconst (v := 2) hx hb dX7_areMet_20 (by decide) ?_
          refine lv_iload_n hx hb dX7_areMet_21 rfl (lv_at hl 2 rfl) ?_
          refine lv_iadd hx hb dX7_areMet_22 ?_
          obtain ⟨g11, h⟩ := it_g h
          refine aM_1 hx_E hw g11 dX7_areMet_23 ?_
          refine lv_iconst (v := -1) hx hb dX7_areMet_24 (by decide) ?_
          refine lv_icmp_eq (tgt := 45) hx hb dX7_areMet_25 (by decide) (fun c12 => ?_) (fun c12 => ?_)
          · replace h := it_t c12 h
            refine lv_iconst (v := 1) hx hb dX7_areMet_45 (by decide) ?_
            refine lv_goto (tgt := 50) hx hb dX7_areMet_46 (by decide) ?_
            refine lv_istore_n (lv' := [(1, .int (1 : Int32)), (0, .ref (ad 0)), (2, .int v2)]) hx hb dX7_areMet_50 rfl hl (by decide) rfl (fun ls hl => ?_)
            refine lv_iinc (v := (v2 + 1)) (lv' := [(2, .int (v2 + 1)), (1, .int (1 : Int32)), (0, .ref (ad 0))]) hx hb dX7_areMet_51 hl (k := 2) rfl rfl (by decide) rfl (fun ls hl => ?_)
            refine lv_goto (tgt := 4) hx hb dX7_areMet_54 (by decide) ?_
            exact ih _ _  (Or.inr rfl) H locs ls h hw (lv_sub hl [2, 1, 0] rfl)
          · replace h := it_f c12 h
            refine lv_aload_n hx hb dX7_areMet_28 rfl (lv_at hl 0 rfl) ?_
            refine lv_iload_n hx hb dX7_areMet_29 rfl (lv_at hl 2 rfl) ?_
            refine lv_iconst (v := 1) hx hb dX7_areMet_30 (by decide) ?_
            obtain ⟨v13, k14, h⟩ := it_b h
            refine kV_i (As := [.int v2, .int (1 : Int32)]) (rest := []) (q := 0) hx_E hw (c_X7_aroundWith l K ad hI  v2 (1 : Int32) σ k14) mi_X7_aroundWith mv_X7_aroundWith ml_X7_85 (by decide) rfl rfl rfl ⟨⟨Nat.le_of_ble_eq_true rfl, Nat.le_of_ble_eq_true rfl⟩, rfl, rfl⟩ ⟨Nat.zero_le _, Nat.zero_le _⟩ hl.1 rfl (Nat.le_of_ble_eq_true rfl) dX7_areMet_31 (fun H locs hw => ?_)
            refine lv_aload_n hx hb dX7_areMet_34 rfl (lv_at hl 0 rfl) ?_
            refine gM_0_0 hx_E hw fl_X7_7 dX7_areMet_35 ?_
            refine lv_iconst (v := 2) hx hb dX7_areMet_38 (by decide) ?_
            refine lv_iload_n hx hb dX7_areMet_39 rfl (lv_at hl 2 rfl) ?_
            refine lv_iadd hx hb dX7_areMet_40 ?_
            obtain ⟨g15, h⟩ := it_g h
            refine aM_1 hx_E hw g15 dX7_areMet_41 ?_
            refine lv_icmp_ne (tgt := 49) hx hb dX7_areMet_42 (by decide) (fun c16 => ?_) (fun c16 => ?_)
            · replace h := it_f c16 h
              refine lv_iconst (v := 0) hx hb dX7_areMet_49 (by decide) ?_
              refine lv_istore_n (lv' := [(1, .int (0 : Int32)), (0, .ref (ad 0)), (2, .int v2)]) hx hb dX7_areMet_50 rfl hl (by decide) rfl (fun ls hl => ?_)
              refine lv_iinc (v := (v2 + 1)) (lv' := [(2, .int (v2 + 1)), (1, .int (0 : Int32)), (0, .ref (ad 0))]) hx hb dX7_areMet_51 hl (k := 2) rfl rfl (by decide) rfl (fun ls hl => ?_)
              refine lv_goto (tgt := 4) hx hb dX7_areMet_54 (by decide) ?_
              exact ih _ _  (Or.inl rfl) H locs ls h hw (lv_sub hl [2, 1, 0] rfl)
            · replace h := it_t c16 h
              refine lv_iconst (v := 1) hx hb dX7_areMet_45 (by decide) ?_
              refine lv_goto (tgt := 50) hx hb dX7_areMet_46 (by decide) ?_
              refine lv_istore_n (lv' := [(1, .int (1 : Int32)), (0, .ref (ad 0)), (2, .int v2)]) hx hb dX7_areMet_50 rfl hl (by decide) rfl (fun ls hl => ?_)
              refine lv_iinc (v := (v2 + 1)) (lv' := [(2, .int (v2 + 1)), (1, .int (1 : Int32)), (0, .ref (ad 0))]) hx hb dX7_areMet_51 hl (k := 2) rfl rfl (by decide) rfl (fun ls hl => ?_)
              refine lv_goto (tgt := 4) hx hb dX7_areMet_54 (by decide) ?_
              exact ih _ _  (Or.inr rfl) H locs ls h hw (lv_sub hl [2, 1, 0] rfl)
  exact hL4 600 _ _ (Or.inr rfl) H locs ls h9 hw (lv_sub hl [2, 1, 0] rfl)
set_option maxHeartbeats 4000000 in
set_option maxRecDepth 100000 in
theorem c_X7_looks (l : Launch) (K : vK) (ad : Nat → Nat) (hI : adInj 12 ad) (σ : vSt) {σ' : vSt} (h : f_X7_looks σ = some σ') : MCv l yX7_looks (wsY yX7_looks cX7_looks 4 none) (rmF 5 94) K 12 ad (cM K ad) [.ref (ad 0)] σ σ' := by
  refine MCv_of (own := RX7) (plainFor_of_name (by decide)) hI rfl (Nat.le_of_ble_eq_true rfl) ?_
  intro p e s m args below meth c A Q hx_E hE H locs ls hw hl
  have hx := hx_E.1; have hb := hx_E.2.1; have hown := hx_E.2.2.2.1; have hts := hx_E.2.2.2.2.1
  replace hl : lv_has ls 4 [(0, .ref (ad 0))] := hl
  unfold f_X7_looks at h
  refine lv_aload_n hx hb dX7_looks_0 rfl (lv_at hl 0 rfl) ?_
  refine lv_iconst (v := -1) hx hb dX7_looks_1 (by decide) ?_
  refine pM_0_9 hx_E hw fl_X7_88 dX7_looks_2 (fun H locs hw => ?_)
  refine lv_aload_n hx hb dX7_looks_5 rfl (lv_at hl 0 rfl) ?_
  obtain ⟨v1, k2, h⟩ := it_b h
  refine kV_i (As := []) (rest := []) (q := 0) hx_E hw (c_X7_cells l K ad hI   (sI σ 0 9 (-1 : Int32)) k2) mi_X7_cells mv_X7_cells ml_X7_82 (by decide) rfl rfl rfl ⟨⟨Nat.le_of_ble_eq_true rfl, Nat.le_of_ble_eq_true rfl⟩, rfl, rfl⟩ ⟨Nat.zero_le _, Nat.zero_le _⟩ hl.1 rfl (Nat.le_of_ble_eq_true rfl) dX7_looks_6 (fun H locs hw => ?_)
  refine lv_iconst (v := 1) hx hb dX7_looks_9 (by decide) ?_
  refine lv_isub hx hb dX7_looks_10 ?_
  obtain ⟨v3, e_v3, h⟩ := it_b h
  refine lt_topi (Option.some.inj e_v3) ?_
  refine lv_istore_n (lv' := [(1, .int v3), (0, .ref (ad 0))]) hx hb dX7_looks_11 rfl hl (by decide) rfl (fun ls hl => ?_)
  obtain ⟨σ4, e_σ4, h⟩ := it_b h
  replace hw := PW_cast (Option.some.inj e_σ4) hw
  obtain ⟨φ10, h9, h_φ10⟩ := it_b h
  have hJ9 : ∀ (σ7 : vSt), σ7 = φ10 → ∀ (H : Heap) (locs : List Loc) (ls : Array Slot), PW K 12 ad (cM K ad) A s.heap σ7 H locs → lv_has ls 4 [(0, .ref (ad 0))] → W p l e (rmF 5 94) s m args below meth c H locs 0 0 Q (F0 m 72 ls []) := by
    intro σ7 e9 H locs ls hw hl
    subst e9
    replace h := h_φ10
    refine lv_aload_n hx hb dX7_looks_72 rfl (lv_at hl 0 rfl) ?_
    refine lv_iconst (v := -1) hx hb dX7_looks_73 (by decide) ?_
    refine pM_0_10 hx_E hw fl_X7_91 dX7_looks_74 (fun H locs hw => ?_)
    refine lv_aload_n hx hb dX7_looks_77 rfl (lv_at hl 0 rfl) ?_
    obtain ⟨v21, k22, h⟩ := it_b h
    refine kV_i (As := []) (rest := []) (q := 0) hx_E hw (c_X7_corners l K ad hI   (sI σ7 0 10 (-1 : Int32)) k22) mi_X7_corners mv_X7_corners ml_X7_63 (by decide) rfl rfl rfl ⟨⟨Nat.le_of_ble_eq_true rfl, Nat.le_of_ble_eq_true rfl⟩, rfl, rfl⟩ ⟨Nat.zero_le _, Nat.zero_le _⟩ hl.1 rfl (Nat.le_of_ble_eq_true rfl) dX7_looks_78 (fun H locs hw => ?_)
    refine lv_iconst (v := 1) hx hb dX7_looks_81 (by decide) ?_
    refine lv_isub hx hb dX7_looks_82 ?_
    obtain ⟨v23, e_v23, h⟩ := it_b h
    refine lt_topi (Option.some.inj e_v23) ?_
    refine lv_istore_n (lv' := [(1, .int v23), (0, .ref (ad 0))]) hx hb dX7_looks_83 rfl hl (by decide) rfl (fun ls hl => ?_)
    obtain ⟨σ24, e_σ24, h⟩ := it_b h
    replace hw := PW_cast (Option.some.inj e_σ24) hw
    obtain ⟨φ30, h9, h_φ30⟩ := it_b h
    have hJ29 : ∀ (σ27 : vSt), σ27 = φ30 → ∀ (H : Heap) (locs : List Loc) (ls : Array Slot), PW K 12 ad (cM K ad) A s.heap σ27 H locs → lv_has ls 4 [(0, .ref (ad 0))] → W p l e (rmF 5 94) s m args below meth c H locs 0 0 Q (F0 m 132 ls []) := by
      intro σ27 e9 H locs ls hw hl
      subst e9
      replace h := h_φ30
      refine lv_aload_n hx hb dX7_looks_132 rfl (lv_at hl 0 rfl) ?_
      obtain ⟨σ39, k40, h⟩ := it_b h
      refine kV_v (As := []) (rest := []) (q := 0) hx_E hw (c_X7_joins l K ad hI   σ27 k40) mi_X7_joins mv_X7_joins ml_X7_94 (by decide) rfl rfl rfl ⟨⟨Nat.le_of_ble_eq_true rfl, Nat.le_of_ble_eq_true rfl⟩, rfl, rfl⟩ ⟨Nat.zero_le _, Nat.zero_le _⟩ hl.1 rfl (Nat.le_of_ble_eq_true rfl) dX7_looks_133 (fun H locs hw => ?_)
      refine lv_aload_n hx hb dX7_looks_136 rfl (lv_at hl 0 rfl) ?_
      refine lv_iconst (v := 0) hx hb dX7_looks_137 (by decide) ?_
      refine pM_0_12 hx_E hw (Or.inl rfl) fl_X7_97 dX7_looks_138 (fun H locs hw => ?_)
      refine lv_aload_n hx hb dX7_looks_141 rfl (lv_at hl 0 rfl) ?_
      refine lv_iconst (v := -1) hx hb dX7_looks_142 (by decide) ?_
      refine pM_0_11 hx_E hw fl_X7_101 dX7_looks_143 (fun H locs hw => ?_)
      refine lv_aload_n hx hb dX7_looks_146 rfl (lv_at hl 0 rfl) ?_
      obtain ⟨v41, k42, h⟩ := it_b h
      refine kV_z (As := []) (rest := []) (q := 0) hx_E hw (c_X7_areMet l K ad hI   (sI (sI σ39 0 12 (0 : Int32)) 0 11 (-1 : Int32)) k42) mi_X7_areMet mv_X7_areMet ml_X7_104 (by decide) rfl rfl rfl ⟨⟨Nat.le_of_ble_eq_true rfl, Nat.le_of_ble_eq_true rfl⟩, rfl, rfl⟩ ⟨Nat.zero_le _, Nat.zero_le _⟩ hl.1 rfl (Nat.le_of_ble_eq_true rfl) dX7_looks_147 (fun z43 H locs hw => ?_)
      refine lv_istore_n (lv' := [(1, .int v41), (0, .ref (ad 0))]) hx hb dX7_looks_150 rfl hl (by decide) rfl (fun ls hl => ?_)
      refine lv_aload_n hx hb dX7_looks_151 rfl (lv_at hl 1 rfl) ?_
      obtain ⟨v44, k45, h⟩ := it_b h
      refine kV_i (As := []) (rest := []) (q := 0) hx_E hw (c_X7_edges l K ad hI   (sI (sI σ39 0 12 (0 : Int32)) 0 11 (-1 : Int32)) k45) mi_X7_edges mv_X7_edges ml_X7_69 (by decide) rfl rfl rfl ⟨⟨Nat.le_of_ble_eq_true rfl, Nat.le_of_ble_eq_true rfl⟩, rfl, rfl⟩ ⟨Nat.zero_le _, Nat.zero_le _⟩ hl.1 rfl (Nat.le_of_ble_eq_true rfl) dX7_looks_152 (fun H locs hw => ?_)
      refine lv_iconst (v := 1) hx hb dX7_looks_155 (by decide) ?_
      refine lv_isub hx hb dX7_looks_156 ?_
      obtain ⟨v46, e_v46, h⟩ := it_b h
      refine lt_topi (Option.some.inj e_v46) ?_
      refine lv_istore_n (lv' := [(2, .int v46), (1, .int v41), (0, .ref (ad 0))]) hx hb dX7_looks_157 rfl hl (by decide) rfl (fun ls hl => ?_)
      obtain ⟨σ47, e_σ47, h⟩ := it_b h
      replace hw := PW_cast (Option.some.inj e_σ47) hw
      obtain ⟨φ53, h9, h_φ53⟩ := it_b h
      have hJ52 : ∀ (σ50 : vSt), σ50 = φ53 → ∀ (H : Heap) (locs : List Loc) (ls : Array Slot), PW K 12 ad (cM K ad) A s.heap σ50 H locs → lv_has ls 4 [] → W p l e (rmF 5 94) s m args below meth c H locs 0 0 Q (F0 m 237 ls []) := by
        intro σ50 e9 H locs ls hw hl
        subst e9
        replace h := h_φ53
        exact hE hw (Option.some.inj h) dX7_looks_237
      have hL51 : ∀ (n9 : Nat) (v48 : Int32) (σ49 : vSt), ∀ (H : Heap) (locs : List Loc) (ls : Array Slot), f_X7_looks_158 v41 n9 v48 σ49 = some φ53 → PW K 12 ad (cM K ad) A s.heap σ49 H locs → lv_has ls 4 [(0, .ref (ad 0)), (1, .int v41), (2, .int v48)] → W p l e (rmF 5 94) s m args below meth c H locs 0 0 Q (F0 m 158 ls []) := by
        intro n9
        induction n9 with
        | zero => intro v48 σ49 H locs ls h hw hl; rw [f_X7_looks_158.eq_1] at h; exact it_n h
        | succ n9 ih =>
          intro v48 σ49 H locs ls h hw hl
          rw [f_X7_looks_158.eq_2] at h
          refine lv_iload_n hx hb dX7_looks_158 rfl (lv_at hl 2 rfl) ?_
          refine lv_if_lt (tgt := 237) hx hb dX7_looks_159 (by decide) (fun c54 => ?_) (fun c54 => ?_)
          · replace h := it_t c54 h
            have e9 := Option.some.inj h
            subst e9
            exact hJ52 _ rfl  H locs ls hw (lv_sub hl [] rfl)
          · replace h := it_f c54 h
            refine lv_aload_n hx hb dX7_looks_162 rfl (lv_at hl 0 rfl) ?_
            refine lv_iload_n hx hb dX7_looks_163 rfl (lv_at hl 2 rfl) ?_
            obtain ⟨v55, k56, h⟩ := it_b h
            refine kV_i (As := [.int v48]) (rest := []) (q := 0) hx_E hw (c_X7_markOf l K ad hI  v48 σ49 k56) mi_X7_markOf mv_X7_markOf ml_X7_56 (by decide) rfl rfl rfl ⟨⟨Nat.le_of_ble_eq_true rfl, Nat.le_of_ble_eq_true rfl⟩, rfl, rfl⟩ ⟨Nat.zero_le _, Nat.zero_le _⟩ hl.1 rfl (Nat.le_of_ble_eq_true rfl) dX7_looks_164 (fun H locs hw => ?_)
            refine lv_iconst (v := 1) hx hb dX7_looks_167 (by decide) ?_
            refine lv_icmp_ne (tgt := 231) hx hb dX7_looks_168 (by decide) (fun c57 => ?_) (fun c57 => ?_)
            · replace h := it_f c57 h
              refine lv_iinc (v := (v48 + (-1))) (lv' := [(2, .int (v48 + (-1))), (0, .ref (ad 0)), (1, .int v41)]) hx hb dX7_looks_231 hl (k := 2) rfl rfl (by decide) rfl (fun ls hl => ?_)
              refine lv_goto (tgt := 158) hx hb dX7_looks_234 (by decide) ?_
              exact ih _ _  H locs ls h hw (lv_sub hl [1, 2, 0] rfl)
            · replace h := it_t c57 h
              refine lv_aload_n hx hb dX7_looks_171 rfl (lv_at hl 0 rfl) ?_
              refine lv_aload_n hx hb dX7_looks_172 rfl (lv_at hl 0 rfl) ?_
              refine lv_aload_n hx hb dX7_looks_173 rfl (lv_at hl 0 rfl) ?_
              refine lv_iload_n hx hb dX7_looks_174 rfl (lv_at hl 2 rfl) ?_
              refine lv_iconst (v := 0) hx hb dX7_looks_175 (by decide) ?_
              obtain ⟨v58, k59, h⟩ := it_b h
              refine kV_i (As := [.int v48, .int (0 : Int32)]) (rest := [.ref (ad 0), .ref (ad 0)]) (q := 0) hx_E hw (c_X7_end l K ad hI  v48 (0 : Int32) σ49 k59) mi_X7_end mv_X7_end ml_X7_72 (by decide) rfl rfl rfl ⟨⟨Nat.le_of_ble_eq_true rfl, Nat.le_of_ble_eq_true rfl⟩, rfl, rfl⟩ ⟨Nat.zero_le _, Nat.zero_le _⟩ hl.1 rfl (Nat.le_of_ble_eq_true rfl) dX7_looks_176 (fun H locs hw => ?_)
              obtain ⟨v60, k61, h⟩ := it_b h
              refine kV_i (As := [.int v58]) (rest := [.ref (ad 0)]) (q := 0) hx_E hw (c_X7_top l K ad hI  v58 σ49 k61) mi_X7_top mv_X7_top ml_X7_76 (by decide) rfl rfl rfl ⟨⟨Nat.le_of_ble_eq_true rfl, Nat.le_of_ble_eq_true rfl⟩, rfl, rfl⟩ ⟨Nat.zero_le _, Nat.zero_le _⟩ hl.1 rfl (Nat.le_of_ble_eq_true rfl) dX7_looks_179 (fun H locs hw => ?_)
              obtain ⟨v62, k63, h⟩ := it_b h
              refine kV_z (As := [.int v60]) (rest := []) (q := 0) hx_E hw (c_X7_isRing l K ad hI  v60 σ49 k63) mi_X7_isRing mv_X7_isRing ml_X7_108 (by decide) rfl rfl rfl ⟨⟨Nat.le_of_ble_eq_true rfl, Nat.le_of_ble_eq_true rfl⟩, rfl, rfl⟩ ⟨Nat.zero_le _, Nat.zero_le _⟩ hl.1 rfl (Nat.le_of_ble_eq_true rfl) dX7_looks_182 (fun z64 H locs hw => ?_)
              refine lv_if_eq (tgt := 231) hx hb dX7_looks_185 (by decide) (fun c65 => ?_) (fun c65 => ?_)
              · replace h := it_t c65 h
                refine lv_iinc (v := (v48 + (-1))) (lv' := [(2, .int (v48 + (-1))), (0, .ref (ad 0)), (1, .int v41)]) hx hb dX7_looks_231 hl (k := 2) rfl rfl (by decide) rfl (fun ls hl => ?_)
                refine lv_goto (tgt := 158) hx hb dX7_looks_234 (by decide) ?_
                exact ih _ _  H locs ls h hw (lv_sub hl [1, 2, 0] rfl)
              · replace h := it_f c65 h
                refine lv_aload_n hx hb dX7_looks_188 rfl (lv_at hl 0 rfl) ?_
                refine lv_iconst (v := 1) hx hb dX7_looks_189 (by decide) ?_
                refine pM_0_12 hx_E hw (Or.inr rfl) fl_X7_97 dX7_looks_190 (fun H locs hw => ?_)
                refine lv_aload_n hx hb dX7_looks_193 rfl (lv_at hl 0 rfl) ?_
                refine lv_iload_n hx hb dX7_looks_194 rfl (lv_at hl 1 rfl) ?_
                refine lv_if_eq (tgt := 220) hx hb dX7_looks_195 (by decide) (fun c66 => ?_) (fun c66 => ?_)
                · replace h := it_t c66 h
                  refine lv_iload_n hx hb dX7_looks_220 rfl (lv_at hl 2 rfl) ?_
                  refine lv_goto (tgt := 228) hx hb dX7_looks_221 (by decide) ?_
                  refine pM_0_11 hx_E hw fl_X7_101 dX7_looks_228 (fun H locs hw => ?_)
                  refine lv_iinc (v := (v48 + (-1))) (lv' := [(2, .int (v48 + (-1))), (0, .ref (ad 0)), (1, .int v41)]) hx hb dX7_looks_231 hl (k := 2) rfl rfl (by decide) rfl (fun ls hl => ?_)
                  refine lv_goto (tgt := 158) hx hb dX7_looks_234 (by decide) ?_
                  exact ih _ _  H locs ls h hw (lv_sub hl [1, 2, 0] rfl)
                · replace h := it_f c66 h
                  refine lv_aload_n hx hb dX7_looks_198 rfl (lv_at hl 0 rfl) ?_
                  refine gM_0_6 hx_E hw fl_X7_22 dX7_looks_199 ?_
                  refine lv_aload_n hx hb dX7_looks_202 rfl (lv_at hl 0 rfl) ?_
                  refine lv_aload_n hx hb dX7_looks_203 rfl (lv_at hl 0 rfl) ?_
                  refine lv_iload_n hx hb dX7_looks_204 rfl (lv_at hl 2 rfl) ?_
                  refine lv_iconst (v := 0) hx hb dX7_looks_205 (by decide) ?_
                  obtain ⟨v67, k68, h⟩ := it_b h
                  refine kV_i (As := [.int v48, .int (0 : Int32)]) (rest := [.ref (ad 0), .ref (ad 5), .ref (ad 0)]) (q := 0) hx_E hw (c_X7_end l K ad hI  v48 (0 : Int32) (sI σ49 0 12 (1 : Int32)) k68) mi_X7_end mv_X7_end ml_X7_72 (by decide) rfl rfl rfl ⟨⟨Nat.le_of_ble_eq_true rfl, Nat.le_of_ble_eq_true rfl⟩, rfl, rfl⟩ ⟨Nat.zero_le _, Nat.zero_le _⟩ hl.1 rfl (Nat.le_of_ble_eq_true rfl) dX7_looks_206 (fun H locs hw => ?_)
                  obtain ⟨v69, k70, h⟩ := it_b h
                  refine kV_i (As := [.int v67]) (rest := [.ref (ad 5), .ref (ad 0)]) (q := 0) hx_E hw (c_X7_top l K ad hI  v67 (sI σ49 0 12 (1 : Int32)) k70) mi_X7_top mv_X7_top ml_X7_76 (by decide) rfl rfl rfl ⟨⟨Nat.le_of_ble_eq_true rfl, Nat.le_of_ble_eq_true rfl⟩, rfl, rfl⟩ ⟨Nat.zero_le _, Nat.zero_le _⟩ hl.1 rfl (Nat.le_of_ble_eq_true rfl) dX7_looks_209 (fun H locs hw => ?_)
                  obtain ⟨g71, h⟩ := it_g h
                  refine aM_5 hx_E hw g71 dX7_looks_212 ?_
                  refine lv_aload_n hx hb dX7_looks_213 rfl (lv_at hl 0 rfl) ?_
                  refine gM_0_8 hx_E hw fl_X7_66 dX7_looks_214 ?_
                  refine lv_icmp_eq (tgt := 224) hx hb dX7_looks_217 (by decide) (fun c72 => ?_) (fun c72 => ?_)
                  · replace h := it_t c72 h
                    refine lv_aload_n hx hb dX7_looks_224 rfl (lv_at hl 0 rfl) ?_
                    refine gM_0_11 hx_E hw fl_X7_101 dX7_looks_225 ?_
                    refine pM_0_11 hx_E hw fl_X7_101 dX7_looks_228 (fun H locs hw => ?_)
                    refine lv_iinc (v := (v48 + (-1))) (lv' := [(2, .int (v48 + (-1))), (0, .ref (ad 0)), (1, .int v41)]) hx hb dX7_looks_231 hl (k := 2) rfl rfl (by decide) rfl (fun ls hl => ?_)
                    refine lv_goto (tgt := 158) hx hb dX7_looks_234 (by decide) ?_
                    exact ih _ _  H locs ls h hw (lv_sub hl [1, 2, 0] rfl)
                  · replace h := it_f c72 h
                    refine lv_iload_n hx hb dX7_looks_220 rfl (lv_at hl 2 rfl) ?_
                    refine lv_goto (tgt := 228) hx hb dX7_looks_221 (by decide) ?_
                    refine pM_0_11 hx_E hw fl_X7_101 dX7_looks_228 (fun H locs hw => ?_)
                    refine lv_iinc (v := (v48 + (-1))) (lv' := [(2, .int (v48 + (-1))), (0, .ref (ad 0)), (1, .int v41)]) hx hb dX7_looks_231 hl (k := 2) rfl rfl (by decide) rfl (fun ls hl => ?_)
                    refine lv_goto (tgt := 158) hx hb dX7_looks_234 (by decide) ?_
                    exact ih _ _  H locs ls h hw (lv_sub hl [1, 2, 0] rfl)
      exact hL51 600 _ _  H locs ls h9 hw (lv_sub hl [2, 1, 0] rfl)
    have hL28 : ∀ (n9 : Nat) (v25 : Int32) (σ26 : vSt), ∀ (H : Heap) (locs : List Loc) (ls : Array Slot), f_X7_looks_84  n9 v25 σ26 = some φ30 → PW K 12 ad (cM K ad) A s.heap σ26 H locs → lv_has ls 4 [(0, .ref (ad 0)), (1, .int v25)] → W p l e (rmF 5 94) s m args below meth c H locs 0 0 Q (F0 m 84 ls []) := by
      intro n9
      induction n9 with
      | zero => intro v25 σ26 H locs ls h hw hl; rw [f_X7_looks_84.eq_1] at h; exact it_n h
      | succ n9 ih =>
        intro v25 σ26 H locs ls h hw hl
        rw [f_X7_looks_84.eq_2] at h
        refine lv_iload_n hx hb dX7_looks_84 rfl (lv_at hl 1 rfl) ?_
        refine lv_if_lt (tgt := 132) hx hb dX7_looks_85 (by decide) (fun c31 => ?_) (fun c31 => ?_)
        · replace h := it_t c31 h
          have e9 := Option.some.inj h
          subst e9
          exact hJ29 _ rfl  H locs ls hw (lv_sub hl [0] rfl)
        · replace h := it_f c31 h
          refine lv_aload_n hx hb dX7_looks_88 rfl (lv_at hl 0 rfl) ?_
          refine lv_iload_n hx hb dX7_looks_89 rfl (lv_at hl 1 rfl) ?_
          refine lv_iconst (v := 1) hx hb dX7_looks_90 (by decide) ?_
          obtain ⟨v32, k33, h⟩ := it_b h
          refine kV_i (As := [.int v25, .int (1 : Int32)]) (rest := []) (q := 0) hx_E hw (c_X7_atWith l K ad hI  v25 (1 : Int32) σ26 k33) mi_X7_atWith mv_X7_atWith ml_X7_79 (by decide) rfl rfl rfl ⟨⟨Nat.le_of_ble_eq_true rfl, Nat.le_of_ble_eq_true rfl⟩, rfl, rfl⟩ ⟨Nat.zero_le _, Nat.zero_le _⟩ hl.1 rfl (Nat.le_of_ble_eq_true rfl) dX7_looks_91 (fun H locs hw => ?_)
          refine lv_istore_n (lv' := [(2, .int v32), (0, .ref (ad 0)), (1, .int v25)]) hx hb dX7_looks_94 rfl hl (by decide) rfl (fun ls hl => ?_)
          refine lv_aload_n hx hb dX7_looks_95 rfl (lv_at hl 1 rfl) ?_
          refine lv_iload_n hx hb dX7_looks_96 rfl (lv_at hl 0 rfl) ?_
          refine lv_iconst (v := 2) hx hb dX7_looks_97 (by decide) ?_
          refine lv_icmp_gt (tgt := 115) hx hb dX7_looks_98 (by decide) (fun c34 => ?_) (fun c34 => ?_)
          · replace h := it_t c34 h
            refine lv_iload_n hx hb dX7_looks_115 rfl (lv_at hl 2 rfl) ?_
            refine lv_goto (tgt := 123) hx hb dX7_looks_116 (by decide) ?_
            refine pM_0_10 hx_E hw fl_X7_91 dX7_looks_123 (fun H locs hw => ?_)
            refine lv_iinc (v := (v25 + (-1))) (lv' := [(1, .int (v25 + (-1))), (2, .int v32), (0, .ref (ad 0))]) hx hb dX7_looks_126 hl (k := 2) rfl rfl (by decide) rfl (fun ls hl => ?_)
            refine lv_goto (tgt := 84) hx hb dX7_looks_129 (by decide) ?_
            exact ih _ _  H locs ls h hw (lv_sub hl [2, 0] rfl)
          · replace h := it_f c34 h
            refine lv_iload_n hx hb dX7_looks_101 rfl (lv_at hl 0 rfl) ?_
            refine lv_iconst (v := 1) hx hb dX7_looks_102 (by decide) ?_
            refine lv_icmp_ne (tgt := 119) hx hb dX7_looks_103 (by decide) (fun c35 => ?_) (fun c35 => ?_)
            · replace h := it_f c35 h
              refine lv_aload_n hx hb dX7_looks_119 rfl (lv_at hl 1 rfl) ?_
              refine gM_0_10 hx_E hw fl_X7_91 dX7_looks_120 ?_
              refine pM_0_10 hx_E hw fl_X7_91 dX7_looks_123 (fun H locs hw => ?_)
              refine lv_iinc (v := (v25 + (-1))) (lv' := [(1, .int (v25 + (-1))), (2, .int v32), (0, .ref (ad 0))]) hx hb dX7_looks_126 hl (k := 2) rfl rfl (by decide) rfl (fun ls hl => ?_)
              refine lv_goto (tgt := 84) hx hb dX7_looks_129 (by decide) ?_
              exact ih _ _  H locs ls h hw (lv_sub hl [2, 0] rfl)
            · replace h := it_t c35 h
              refine lv_aload_n hx hb dX7_looks_106 rfl (lv_at hl 1 rfl) ?_
              refine lv_iload_n hx hb dX7_looks_107 rfl (lv_at hl 2 rfl) ?_
              refine lv_iconst (v := 0) hx hb dX7_looks_108 (by decide) ?_
              obtain ⟨v36, k37, h⟩ := it_b h
              refine kV_i (As := [.int v25, .int (0 : Int32)]) (rest := [.ref (ad 0)]) (q := 0) hx_E hw (c_X7_atWith l K ad hI  v25 (0 : Int32) σ26 k37) mi_X7_atWith mv_X7_atWith ml_X7_79 (by decide) rfl rfl rfl ⟨⟨Nat.le_of_ble_eq_true rfl, Nat.le_of_ble_eq_true rfl⟩, rfl, rfl⟩ ⟨Nat.zero_le _, Nat.zero_le _⟩ hl.1 rfl (Nat.le_of_ble_eq_true rfl) dX7_looks_109 (fun H locs hw => ?_)
              refine lv_if_ne (tgt := 119) hx hb dX7_looks_112 (by decide) (fun c38 => ?_) (fun c38 => ?_)
              · replace h := it_f c38 h
                refine lv_aload_n hx hb dX7_looks_119 rfl (lv_at hl 1 rfl) ?_
                refine gM_0_10 hx_E hw fl_X7_91 dX7_looks_120 ?_
                refine pM_0_10 hx_E hw fl_X7_91 dX7_looks_123 (fun H locs hw => ?_)
                refine lv_iinc (v := (v25 + (-1))) (lv' := [(1, .int (v25 + (-1))), (2, .int v32), (0, .ref (ad 0))]) hx hb dX7_looks_126 hl (k := 2) rfl rfl (by decide) rfl (fun ls hl => ?_)
                refine lv_goto (tgt := 84) hx hb dX7_looks_129 (by decide) ?_
                exact ih _ _  H locs ls h hw (lv_sub hl [2, 0] rfl)
              · replace h := it_t c38 h
                refine lv_iload_n hx hb dX7_looks_115 rfl (lv_at hl 2 rfl) ?_
                refine lv_goto (tgt := 123) hx hb dX7_looks_116 (by decide) ?_
                refine pM_0_10 hx_E hw fl_X7_91 dX7_looks_123 (fun H locs hw => ?_)
                refine lv_iinc (v := (v25 + (-1))) (lv' := [(1, .int (v25 + (-1))), (2, .int v32), (0, .ref (ad 0))]) hx hb dX7_looks_126 hl (k := 2) rfl rfl (by decide) rfl (fun ls hl => ?_)
                refine lv_goto (tgt := 84) hx hb dX7_looks_129 (by decide) ?_
                exact ih _ _  H locs ls h hw (lv_sub hl [2, 0] rfl)
    exact hL28 600 _ _  H locs ls h9 hw (lv_sub hl [1, 0] rfl)
  have hL8 : ∀ (n9 : Nat) (v5 : Int32) (σ6 : vSt), ∀ (H : Heap) (locs : List Loc) (ls : Array Slot), f_X7_looks_12  n9 v5 σ6 = some φ10 → PW K 12 ad (cM K ad) A s.heap σ6 H locs → lv_has ls 4 [(0, .ref (ad 0)), (1, .int v5)] → W p l e (rmF 5 94) s m args below meth c H locs 0 0 Q (F0 m 12 ls []) := by
    intro n9
    induction n9 with
    | zero => intro v5 σ6 H locs ls h hw hl; rw [f_X7_looks_12.eq_1] at h; exact it_n h
    | succ n9 ih =>
      intro v5 σ6 H locs ls h hw hl
      rw [f_X7_looks_12.eq_2] at h
      refine lv_iload_n hx hb dX7_looks_12 rfl (lv_at hl 1 rfl) ?_
      refine lv_if_lt (tgt := 72) hx hb dX7_looks_13 (by decide) (fun c11 => ?_) (fun c11 => ?_)
      · replace h := it_t c11 h
        have e9 := Option.some.inj h
        subst e9
        exact hJ9 _ rfl  H locs ls hw (lv_sub hl [0] rfl)
      · replace h := it_f c11 h
        refine lv_aload_n hx hb dX7_looks_16 rfl (lv_at hl 0 rfl) ?_
        refine gM_0_0 hx_E hw fl_X7_7 dX7_looks_17 ?_
        refine lv_iconst (v := 2) hx hb dX7_looks_20 (by decide) ?_
        refine lv_iload_n hx hb dX7_looks_21 rfl (lv_at hl 1 rfl) ?_
        refine lv_iadd hx hb dX7_looks_22 ?_
        obtain ⟨g12, h⟩ := it_g h
        refine aM_1 hx_E hw g12 dX7_looks_23 ?_
        obtain ⟨v13, e_v13, h⟩ := it_b h
        refine lt_topi (Option.some.inj e_v13) ?_
        refine lv_istore_n (lv' := [(2, .int v13), (0, .ref (ad 0)), (1, .int v5)]) hx hb dX7_looks_24 rfl hl (by decide) rfl (fun ls hl => ?_)
        refine lv_aload_n hx hb dX7_looks_25 rfl (lv_at hl 1 rfl) ?_
        refine lv_iload_n hx hb dX7_looks_26 rfl (lv_at hl 2 rfl) ?_
        refine lv_iconst (v := 1) hx hb dX7_looks_27 (by decide) ?_
        obtain ⟨v14, k15, h⟩ := it_b h
        refine kV_i (As := [.int v5, .int (1 : Int32)]) (rest := []) (q := 0) hx_E hw (c_X7_aroundWith l K ad hI  v5 (1 : Int32) σ6 k15) mi_X7_aroundWith mv_X7_aroundWith ml_X7_85 (by decide) rfl rfl rfl ⟨⟨Nat.le_of_ble_eq_true rfl, Nat.le_of_ble_eq_true rfl⟩, rfl, rfl⟩ ⟨Nat.zero_le _, Nat.zero_le _⟩ hl.1 rfl (Nat.le_of_ble_eq_true rfl) dX7_looks_28 (fun H locs hw => ?_)
        refine lv_istore_n (lv' := [(3, .int v14), (2, .int v13), (0, .ref (ad 0)), (1, .int v5)]) hx hb dX7_looks_31 rfl hl (by decide) rfl (fun ls hl => ?_)
        refine lv_aload_n hx hb dX7_looks_32 rfl (lv_at hl 2 rfl) ?_
        refine lv_iload_n hx hb dX7_looks_33 rfl (lv_at hl 1 rfl) ?_
        refine lv_iconst (v := -1) hx hb dX7_looks_34 (by decide) ?_
        refine lv_icmp_eq (tgt := 59) hx hb dX7_looks_35 (by decide) (fun c16 => ?_) (fun c16 => ?_)
        · replace h := it_t c16 h
          refine lv_aload_n hx hb dX7_looks_59 rfl (lv_at hl 2 rfl) ?_
          refine gM_0_9 hx_E hw fl_X7_88 dX7_looks_60 ?_
          refine pM_0_9 hx_E hw fl_X7_88 dX7_looks_63 (fun H locs hw => ?_)
          refine lv_iinc (v := (v5 + (-1))) (lv' := [(1, .int (v5 + (-1))), (3, .int v14), (2, .int v13), (0, .ref (ad 0))]) hx hb dX7_looks_66 hl (k := 3) rfl rfl (by decide) rfl (fun ls hl => ?_)
          refine lv_goto (tgt := 12) hx hb dX7_looks_69 (by decide) ?_
          exact ih _ _  H locs ls h hw (lv_sub hl [3, 0] rfl)
        · replace h := it_f c16 h
          refine lv_iload_n hx hb dX7_looks_38 rfl (lv_at hl 0 rfl) ?_
          refine lv_iload_n hx hb dX7_looks_39 rfl (lv_at hl 1 rfl) ?_
          refine lv_icmp_gt (tgt := 55) hx hb dX7_looks_40 (by decide) (fun c17 => ?_) (fun c17 => ?_)
          · replace h := it_t c17 h
            refine lv_iload_n hx hb dX7_looks_55 rfl (lv_at hl 3 rfl) ?_
            refine lv_goto (tgt := 63) hx hb dX7_looks_56 (by decide) ?_
            refine pM_0_9 hx_E hw fl_X7_88 dX7_looks_63 (fun H locs hw => ?_)
            refine lv_iinc (v := (v5 + (-1))) (lv' := [(1, .int (v5 + (-1))), (3, .int v14), (2, .int v13), (0, .ref (ad 0))]) hx hb dX7_looks_66 hl (k := 3) rfl rfl (by decide) rfl (fun ls hl => ?_)
            refine lv_goto (tgt := 12) hx hb dX7_looks_69 (by decide) ?_
            exact ih _ _  H locs ls h hw (lv_sub hl [3, 0] rfl)
          · replace h := it_f c17 h
            refine lv_iload_n hx hb dX7_looks_43 rfl (lv_at hl 0 rfl) ?_
            refine lv_aload_n hx hb dX7_looks_44 rfl (lv_at hl 2 rfl) ?_
            refine lv_iload_n hx hb dX7_looks_45 rfl (lv_at hl 3 rfl) ?_
            refine lv_iconst (v := 0) hx hb dX7_looks_46 (by decide) ?_
            obtain ⟨v18, k19, h⟩ := it_b h
            refine kV_i (As := [.int v5, .int (0 : Int32)]) (rest := [.int v14, .ref (ad 0)]) (q := 0) hx_E hw (c_X7_aroundWith l K ad hI  v5 (0 : Int32) σ6 k19) mi_X7_aroundWith mv_X7_aroundWith ml_X7_85 (by decide) rfl rfl rfl ⟨⟨Nat.le_of_ble_eq_true rfl, Nat.le_of_ble_eq_true rfl⟩, rfl, rfl⟩ ⟨Nat.zero_le _, Nat.zero_le _⟩ hl.1 rfl (Nat.le_of_ble_eq_true rfl) dX7_looks_47 (fun H locs hw => ?_)
            refine lv_iadd hx hb dX7_looks_50 ?_
            refine lv_iload_n hx hb dX7_looks_51 rfl (lv_at hl 1 rfl) ?_
            refine lv_icmp_ge (tgt := 59) hx hb dX7_looks_52 (by decide) (fun c20 => ?_) (fun c20 => ?_)
            · replace h := it_t c20 h
              refine lv_aload_n hx hb dX7_looks_59 rfl (lv_at hl 2 rfl) ?_
              refine gM_0_9 hx_E hw fl_X7_88 dX7_looks_60 ?_
              refine pM_0_9 hx_E hw fl_X7_88 dX7_looks_63 (fun H locs hw => ?_)
              refine lv_iinc (v := (v5 + (-1))) (lv' := [(1, .int (v5 + (-1))), (3, .int v14), (2, .int v13), (0, .ref (ad 0))]) hx hb dX7_looks_66 hl (k := 3) rfl rfl (by decide) rfl (fun ls hl => ?_)
              refine lv_goto (tgt := 12) hx hb dX7_looks_69 (by decide) ?_
              exact ih _ _  H locs ls h hw (lv_sub hl [3, 0] rfl)
            · replace h := it_f c20 h
              refine lv_iload_n hx hb dX7_looks_55 rfl (lv_at hl 3 rfl) ?_
              refine lv_goto (tgt := 63) hx hb dX7_looks_56 (by decide) ?_
              refine pM_0_9 hx_E hw fl_X7_88 dX7_looks_63 (fun H locs hw => ?_)
              refine lv_iinc (v := (v5 + (-1))) (lv' := [(1, .int (v5 + (-1))), (3, .int v14), (2, .int v13), (0, .ref (ad 0))]) hx hb dX7_looks_66 hl (k := 3) rfl rfl (by decide) rfl (fun ls hl => ?_)
              refine lv_goto (tgt := 12) hx hb dX7_looks_69 (by decide) ?_
              exact ih _ _  H locs ls h hw (lv_sub hl [3, 0] rfl)
  exact hL8 600 _ _  H locs ls h9 hw (lv_sub hl [1, 0] rfl)
set_option maxHeartbeats 4000000 in
set_option maxRecDepth 100000 in
theorem c_X7_fits (l : Launch) (K : vK) (ad : Nat → Nat) (hI : adInj 12 ad) (σ : vSt) {r : Int32} {σ' : vSt} (h : f_X7_fits σ = some (r, σ')) : MCz l yX7_fits (wsY yX7_fits cX7_fits 1 (some .boolean)) (rmF 6 117) K 12 ad (cM K ad) [.ref (ad 0)] σ r σ' := by
  refine MCz_of (own := RX7) (plainFor_of_name (by decide)) hI rfl (Nat.le_of_ble_eq_true rfl) ?_
  intro p e s m args below meth c A Q hx_E hE H locs ls hw hl
  have hx := hx_E.1; have hb := hx_E.2.1; have hown := hx_E.2.2.2.1; have hts := hx_E.2.2.2.2.1
  replace hl : lv_has ls 1 [(0, .ref (ad 0))] := hl
  unfold f_X7_fits at h
  refine lv_aload_n hx hb dX7_fits_0 rfl (lv_at hl 0 rfl) ?_
  obtain ⟨σ1, k2, h⟩ := it_b h
  refine kV_v (As := []) (rest := []) (q := 0) hx_E hw (c_X7_looks l K ad hI   σ k2) mi_X7_looks mv_X7_looks ml_X7_112 (by decide) rfl rfl rfl ⟨⟨Nat.le_of_ble_eq_true rfl, Nat.le_of_ble_eq_true rfl⟩, rfl, rfl⟩ ⟨Nat.zero_le _, Nat.zero_le _⟩ hl.1 rfl (Nat.le_of_ble_eq_true rfl) dX7_fits_1 (fun H locs hw => ?_)
  refine lv_aload_n hx hb dX7_fits_4 rfl (lv_at hl 0 rfl) ?_
  refine gM_0_9 hx_E hw fl_X7_88 dX7_fits_5 ?_
  refine lv_iconst (v := -1) hx hb dX7_fits_8 (by decide) ?_
  refine lv_icmp_ne (tgt := 32) hx hb dX7_fits_9 (by decide) (fun c3 => ?_) (fun c3 => ?_)
  · replace h := it_f c3 h
    refine lv_iconst (v := 0) hx hb dX7_fits_32 (by decide) ?_
    exact hE hw (congrArg Prod.fst (Option.some.inj h)) (congrArg Prod.snd (Option.some.inj h)) (Or.inl rfl) dX7_fits_33
  · replace h := it_t c3 h
    refine lv_aload_n hx hb dX7_fits_12 rfl (lv_at hl 0 rfl) ?_
    refine gM_0_10 hx_E hw fl_X7_91 dX7_fits_13 ?_
    refine lv_iconst (v := -1) hx hb dX7_fits_16 (by decide) ?_
    refine lv_icmp_ne (tgt := 32) hx hb dX7_fits_17 (by decide) (fun c4 => ?_) (fun c4 => ?_)
    · replace h := it_f c4 h
      refine lv_iconst (v := 0) hx hb dX7_fits_32 (by decide) ?_
      exact hE hw (congrArg Prod.fst (Option.some.inj h)) (congrArg Prod.snd (Option.some.inj h)) (Or.inl rfl) dX7_fits_33
    · replace h := it_t c4 h
      refine lv_aload_n hx hb dX7_fits_20 rfl (lv_at hl 0 rfl) ?_
      refine gM_0_11 hx_E hw fl_X7_101 dX7_fits_21 ?_
      refine lv_iconst (v := -1) hx hb dX7_fits_24 (by decide) ?_
      refine lv_icmp_ne (tgt := 32) hx hb dX7_fits_25 (by decide) (fun c5 => ?_) (fun c5 => ?_)
      · replace h := it_f c5 h
        refine lv_iconst (v := 0) hx hb dX7_fits_32 (by decide) ?_
        exact hE hw (congrArg Prod.fst (Option.some.inj h)) (congrArg Prod.snd (Option.some.inj h)) (Or.inl rfl) dX7_fits_33
      · replace h := it_t c5 h
        refine lv_iconst (v := 1) hx hb dX7_fits_28 (by decide) ?_
        refine lv_goto (tgt := 33) hx hb dX7_fits_29 (by decide) ?_
        exact hE hw (congrArg Prod.fst (Option.some.inj h)) (congrArg Prod.snd (Option.some.inj h)) (Or.inr rfl) dX7_fits_33
set_option maxHeartbeats 4000000 in
set_option maxRecDepth 100000 in
theorem c_X7_finds (l : Launch) (K : vK) (ad : Nat → Nat) (hI : adInj 12 ad) (l1 : Int32) (l2 : Int32) (l3 : Int32) (l4 : Int32) (σ : vSt) {r : Int32} {σ' : vSt} (h : f_X7_finds l1 l2 l3 l4 σ = some (r, σ')) : MCz l yX7_finds (wsY yX7_finds cX7_finds 5 (some .boolean)) (rmF 1 0) K 12 ad (cM K ad) [.ref (ad 0), .int l1, .int l2, .int l3, .int l4] σ r σ' := by
  refine MCz_of (own := RX7) (plainFor_of_name (by decide)) hI rfl (Nat.le_of_ble_eq_true rfl) ?_
  intro p e s m args below meth c A Q hx_E hE H locs ls hw hl
  have hx := hx_E.1; have hb := hx_E.2.1; have hown := hx_E.2.2.2.1; have hts := hx_E.2.2.2.2.1
  replace hl : lv_has ls 5 [(0, .ref (ad 0)), (1, .int l1), (2, .int l2), (3, .int l3), (4, .int l4)] := hl
  unfold f_X7_finds at h
  refine lv_aload_n hx hb dX7_finds_0 rfl (lv_at hl 0 rfl) ?_
  refine lv_iload_n hx hb dX7_finds_1 rfl (lv_at hl 1 rfl) ?_
  refine pM_0_13 hx_E hw fl_X7_115 dX7_finds_2 (fun H locs hw => ?_)
  refine lv_aload_n hx hb dX7_finds_5 rfl (lv_at hl 0 rfl) ?_
  refine lv_iload_n hx hb dX7_finds_6 rfl (lv_at hl 2 rfl) ?_
  refine pM_0_14 hx_E hw fl_X7_118 dX7_finds_7 (fun H locs hw => ?_)
  refine lv_aload_n hx hb dX7_finds_10 rfl (lv_at hl 0 rfl) ?_
  refine lv_iload_n hx hb dX7_finds_11 rfl (lv_at hl 3 rfl) ?_
  refine pM_0_15 hx_E hw fl_X7_121 dX7_finds_12 (fun H locs hw => ?_)
  refine lv_aload_n hx hb dX7_finds_15 rfl (lv_at hl 0 rfl) ?_
  refine lv_iload hx hb dX7_finds_16 (lv_at hl 4 rfl) ?_
  refine pM_0_16 hx_E hw fl_X7_124 dX7_finds_18 (fun H locs hw => ?_)
  refine lv_iconst (v := 1) hx hb dX7_finds_21 (by decide) ?_
  exact hE hw (congrArg Prod.fst (Option.some.inj h)) (congrArg Prod.snd (Option.some.inj h)) (Or.inr rfl) dX7_finds_22
set_option maxHeartbeats 4000000 in
set_option maxRecDepth 100000 in
theorem c_X7_byCells (l : Launch) (K : vK) (ad : Nat → Nat) (hI : adInj 12 ad) (l1 : Int32) (σ : vSt) {r : Int32} {σ' : vSt} (h : f_X7_byCells l1 σ = some (r, σ')) : MCz l yX7_byCells (wsY yX7_byCells cX7_byCells 4 (some .boolean)) (rmF 4 68) K 12 ad (cM K ad) [.ref (ad 0), .int l1] σ r σ' := by
  refine MCz_of (own := RX7) (plainFor_of_name (by decide)) hI rfl (Nat.le_of_ble_eq_true rfl) ?_
  intro p e s m args below meth c A Q hx_E hE H locs ls hw hl
  have hx := hx_E.1; have hb := hx_E.2.1; have hown := hx_E.2.2.2.1; have hts := hx_E.2.2.2.2.1
  replace hl : lv_has ls 4 [(0, .ref (ad 0)), (1, .int l1)] := hl
  unfold f_X7_byCells at h
  refine lv_iconst (v := 0) hx hb dX7_byCells_0 (by decide) ?_
  refine lv_istore_n (lv' := [(2, .int (0 : Int32)), (0, .ref (ad 0)), (1, .int l1)]) hx hb dX7_byCells_1 rfl hl (by decide) rfl (fun ls hl => ?_)
  obtain ⟨φ4, h9, h_φ4⟩ := it_b h
  have hJ3 : ∀ (_u : Unit), .inr () = φ4 → ∀ (H : Heap) (locs : List Loc) (ls : Array Slot), PW K 12 ad (cM K ad) A s.heap σ H locs → lv_has ls 4 [] → W p l e (rmF 4 68) s m args below meth c H locs 0 0 Q (F0 m 81 ls []) := by
    intro _u e9 H locs ls hw hl
    subst e9
    replace h := h_φ4
    refine lv_iconst (v := 0) hx hb dX7_byCells_81 (by decide) ?_
    exact hE hw (congrArg Prod.fst (Option.some.inj h)) (congrArg Prod.snd (Option.some.inj h)) (Or.inl rfl) dX7_byCells_82
  have hL2 : ∀ (n9 : Nat) (v1 : Int32), ∀ (H : Heap) (locs : List Loc) (ls : Array Slot), f_X7_byCells_2 l1 σ n9 v1 = some φ4 → PW K 12 ad (cM K ad) A s.heap σ H locs → lv_has ls 4 [(0, .ref (ad 0)), (1, .int l1), (2, .int v1)] → W p l e (rmF 4 68) s m args below meth c H locs 0 0 Q (F0 m 2 ls []) := by
    intro n9
    induction n9 with
    | zero => intro v1 H locs ls h hw hl; rw [f_X7_byCells_2.eq_1] at h; exact it_n h
    | succ n9 ih =>
      intro v1 H locs ls h hw hl
      rw [f_X7_byCells_2.eq_2] at h
      refine lv_iload_n hx hb dX7_byCells_2 rfl (lv_at hl 2 rfl) ?_
      refine lv_aload_n hx hb dX7_byCells_3 rfl (lv_at hl 0 rfl) ?_
      obtain ⟨v5, k6, h⟩ := it_b h
      refine kV_i (As := []) (rest := [.int v1]) (q := 0) hx_E hw (c_X7_cells l K ad hI   σ k6) mi_X7_cells mv_X7_cells ml_X7_82 (by decide) rfl rfl rfl ⟨⟨Nat.le_of_ble_eq_true rfl, Nat.le_of_ble_eq_true rfl⟩, rfl, rfl⟩ ⟨Nat.zero_le _, Nat.zero_le _⟩ hl.1 rfl (Nat.le_of_ble_eq_true rfl) dX7_byCells_4 (fun H locs hw => ?_)
      refine lv_icmp_ge (tgt := 81) hx hb dX7_byCells_7 (by decide) (fun c7 => ?_) (fun c7 => ?_)
      · replace h := it_t c7 h
        have e9 := Option.some.inj h
        subst e9
        exact hJ3 () rfl  H locs ls hw (lv_sub hl [] rfl)
      · replace h := it_f c7 h
        refine lv_aload_n hx hb dX7_byCells_10 rfl (lv_at hl 0 rfl) ?_
        refine lv_iload_n hx hb dX7_byCells_11 rfl (lv_at hl 2 rfl) ?_
        refine lv_iconst (v := 1) hx hb dX7_byCells_12 (by decide) ?_
        obtain ⟨v8, k9, h⟩ := it_b h
        refine kV_i (As := [.int v1, .int (1 : Int32)]) (rest := []) (q := 0) hx_E hw (c_X7_aroundWith l K ad hI  v1 (1 : Int32) σ k9) mi_X7_aroundWith mv_X7_aroundWith ml_X7_85 (by decide) rfl rfl rfl ⟨⟨Nat.le_of_ble_eq_true rfl, Nat.le_of_ble_eq_true rfl⟩, rfl, rfl⟩ ⟨Nat.zero_le _, Nat.zero_le _⟩ hl.1 rfl (Nat.le_of_ble_eq_true rfl) dX7_byCells_13 (fun H locs hw => ?_)
        refine lv_iload_n hx hb dX7_byCells_16 rfl (lv_at hl 1 rfl) ?_
        refine lv_iconst (v := 1) hx hb dX7_byCells_17 (by decide) ?_
        obtain ⟨φ13, h9, h_φ13⟩ := it_b h
        have hJ12 : ∀ (v11 : Int32), v11 = φ13 → ∀ (H : Heap) (locs : List Loc) (ls : Array Slot), PW K 12 ad (cM K ad) A s.heap σ H locs → lv_has ls 4 [(0, .ref (ad 0)), (1, .int l1), (2, .int v1)] → W p l e (rmF 4 68) s m args below meth c H locs 0 0 Q (F0 m 31 ls [.int v11, .int v8]) := by
          intro v11 e9 H locs ls hw hl
          subst e9
          replace h := h_φ13
          refine lv_iadd hx hb dX7_byCells_31 ?_
          obtain ⟨v16, e_v16, h⟩ := it_b h
          refine lt_topi (Option.some.inj e_v16) ?_
          refine lv_istore_n (lv' := [(3, .int v16), (0, .ref (ad 0)), (1, .int l1), (2, .int v1)]) hx hb dX7_byCells_32 rfl hl (by decide) rfl (fun ls hl => ?_)
          refine lv_aload_n hx hb dX7_byCells_33 rfl (lv_at hl 1 rfl) ?_
          refine gM_0_0 hx_E hw fl_X7_7 dX7_byCells_34 ?_
          refine lv_iconst (v := 2) hx hb dX7_byCells_37 (by decide) ?_
          refine lv_iload_n hx hb dX7_byCells_38 rfl (lv_at hl 3 rfl) ?_
          refine lv_iadd hx hb dX7_byCells_39 ?_
          obtain ⟨g17, h⟩ := it_g h
          refine aM_1 hx_E hw g17 dX7_byCells_40 ?_
          refine lv_iload_n hx hb dX7_byCells_41 rfl (lv_at hl 0 rfl) ?_
          refine lv_icmp_ne (tgt := 75) hx hb dX7_byCells_42 (by decide) (fun c18 => ?_) (fun c18 => ?_)
          · replace h := it_f c18 h
            refine lv_iinc (v := (v1 + 1)) (lv' := [(2, .int (v1 + 1)), (3, .int v16), (0, .ref (ad 0)), (1, .int l1)]) hx hb dX7_byCells_75 hl (k := 3) rfl rfl (by decide) rfl (fun ls hl => ?_)
            refine lv_goto (tgt := 2) hx hb dX7_byCells_78 (by decide) ?_
            exact ih _   H locs ls h hw (lv_sub hl [2, 3, 0] rfl)
          · replace h := it_t c18 h
            refine lv_aload_n hx hb dX7_byCells_45 rfl (lv_at hl 1 rfl) ?_
            refine lv_iload_n hx hb dX7_byCells_46 rfl (lv_at hl 3 rfl) ?_
            refine lv_iconst (v := 0) hx hb dX7_byCells_47 (by decide) ?_
            obtain ⟨v19, k20, h⟩ := it_b h
            refine kV_i (As := [.int v1, .int (0 : Int32)]) (rest := []) (q := 0) hx_E hw (c_X7_aroundWith l K ad hI  v1 (0 : Int32) σ k20) mi_X7_aroundWith mv_X7_aroundWith ml_X7_85 (by decide) rfl rfl rfl ⟨⟨Nat.le_of_ble_eq_true rfl, Nat.le_of_ble_eq_true rfl⟩, rfl, rfl⟩ ⟨Nat.zero_le _, Nat.zero_le _⟩ hl.1 rfl (Nat.le_of_ble_eq_true rfl) dX7_byCells_48 (fun H locs hw => ?_)
            refine lv_if_le (tgt := 75) hx hb dX7_byCells_51 (by decide) (fun c21 => ?_) (fun c21 => ?_)
            · replace h := it_t c21 h
              refine lv_iinc (v := (v1 + 1)) (lv' := [(2, .int (v1 + 1)), (3, .int v16), (0, .ref (ad 0)), (1, .int l1)]) hx hb dX7_byCells_75 hl (k := 3) rfl rfl (by decide) rfl (fun ls hl => ?_)
              refine lv_goto (tgt := 2) hx hb dX7_byCells_78 (by decide) ?_
              exact ih _   H locs ls h hw (lv_sub hl [2, 3, 0] rfl)
            · replace h := it_f c21 h
              refine lv_aload_n hx hb dX7_byCells_54 rfl (lv_at hl 1 rfl) ?_
              refine lv_iload_n hx hb dX7_byCells_55 rfl (lv_at hl 2 rfl) ?_
              refine lv_aload_n hx hb dX7_byCells_56 rfl (lv_at hl 1 rfl) ?_
              refine lv_iload_n hx hb dX7_byCells_57 rfl (lv_at hl 3 rfl) ?_
              obtain ⟨v22, k23, h⟩ := it_b h
              refine kV_i (As := [.int v1]) (rest := [.int l1, .ref (ad 0)]) (q := 0) hx_E hw (c_X7_openAround l K ad hI  v1 σ k23) mi_X7_openAround mv_X7_openAround ml_X7_127 (by decide) rfl rfl rfl ⟨⟨Nat.le_of_ble_eq_true rfl, Nat.le_of_ble_eq_true rfl⟩, rfl, rfl⟩ ⟨Nat.zero_le _, Nat.zero_le _⟩ hl.1 rfl (Nat.le_of_ble_eq_true rfl) dX7_byCells_58 (fun H locs hw => ?_)
              refine lv_iload_n hx hb dX7_byCells_61 rfl (lv_at hl 2 rfl) ?_
              obtain ⟨φ27, h9, h_φ27⟩ := it_b h
              have hJ26 : ∀ (v25 : Int32), v25 = φ27 → ∀ (H : Heap) (locs : List Loc) (ls : Array Slot), PW K 12 ad (cM K ad) A s.heap σ H locs → lv_has ls 4 [(2, .int v1)] → W p l e (rmF 4 68) s m args below meth c H locs 0 0 Q (F0 m 70 ls [.int v25, .int v22, .int l1, .ref (ad 0)]) := by
                intro v25 e9 H locs ls hw hl
                subst e9
                replace h := h_φ27
                refine lv_iload_n hx hb dX7_byCells_70 rfl (lv_at hl 0 rfl) ?_
                obtain ⟨⟨v28, σ29⟩, k30, h⟩ := it_b h
                refine kV_z (As := [.int l1, .int v22, .int v25, .int v1]) (rest := []) (q := 0) hx_E hw (c_X7_finds l K ad hI  l1 v22 v25 v1 σ k30) mi_X7_finds mv_X7_finds ml_X7_130 (by decide) rfl rfl rfl ⟨⟨Nat.le_of_ble_eq_true rfl, Nat.le_of_ble_eq_true rfl⟩, rfl, rfl⟩ ⟨Nat.zero_le _, Nat.zero_le _⟩ hl.1 rfl (Nat.le_of_ble_eq_true rfl) dX7_byCells_71 (fun z31 H locs hw => ?_)
                have e9 := Option.some.inj h
                subst e9
                replace h := h_φ4
                exact hE hw (congrArg Prod.fst (Option.some.inj h)) (congrArg Prod.snd (Option.some.inj h)) z31 dX7_byCells_74
              replace h := h9
              refine lv_if_ne (tgt := 69) hx hb dX7_byCells_62 (by decide) (fun c24 => ?_) (fun c24 => ?_)
              · replace h := it_f c24 h
                refine lv_iconst (v := 1) hx hb dX7_byCells_69 (by decide) ?_
                have e9 := Option.some.inj h
                subst e9
                exact hJ26 _ rfl  H locs ls hw (lv_sub hl [3] rfl)
              · replace h := it_t c24 h
                refine lv_iconst (v := 2) hx hb dX7_byCells_65 (by decide) ?_
                refine lv_goto (tgt := 70) hx hb dX7_byCells_66 (by decide) ?_
                have e9 := Option.some.inj h
                subst e9
                exact hJ26 _ rfl  H locs ls hw (lv_sub hl [3] rfl)
        replace h := h9
        refine lv_icmp_ne (tgt := 30) hx hb dX7_byCells_18 (by decide) (fun c10 => ?_) (fun c10 => ?_)
        · replace h := it_f c10 h
          refine lv_iconst (v := 0) hx hb dX7_byCells_30 (by decide) ?_
          have e9 := Option.some.inj h
          subst e9
          exact hJ12 _ rfl  H locs ls hw (lv_sub hl [0, 1, 2] rfl)
        · replace h := it_t c10 h
          refine lv_aload_n hx hb dX7_byCells_21 rfl (lv_at hl 0 rfl) ?_
          refine lv_iload_n hx hb dX7_byCells_22 rfl (lv_at hl 2 rfl) ?_
          refine lv_iconst (v := 0) hx hb dX7_byCells_23 (by decide) ?_
          obtain ⟨v14, k15, h⟩ := it_b h
          refine kV_i (As := [.int v1, .int (0 : Int32)]) (rest := [.int v8]) (q := 0) hx_E hw (c_X7_aroundWith l K ad hI  v1 (0 : Int32) σ k15) mi_X7_aroundWith mv_X7_aroundWith ml_X7_85 (by decide) rfl rfl rfl ⟨⟨Nat.le_of_ble_eq_true rfl, Nat.le_of_ble_eq_true rfl⟩, rfl, rfl⟩ ⟨Nat.zero_le _, Nat.zero_le _⟩ hl.1 rfl (Nat.le_of_ble_eq_true rfl) dX7_byCells_24 (fun H locs hw => ?_)
          refine lv_goto (tgt := 31) hx hb dX7_byCells_27 (by decide) ?_
          have e9 := Option.some.inj h
          subst e9
          exact hJ12 _ rfl  H locs ls hw (lv_sub hl [0, 1, 2] rfl)
  exact hL2 600 _  H locs ls h9 hw (lv_sub hl [1, 2, 0] rfl)
set_option maxHeartbeats 4000000 in
set_option maxRecDepth 100000 in
theorem c_X7_byCorners (l : Launch) (K : vK) (ad : Nat → Nat) (hI : adInj 12 ad) (l1 : Int32) (σ : vSt) {r : Int32} {σ' : vSt} (h : f_X7_byCorners l1 σ = some (r, σ')) : MCz l yX7_byCorners (wsY yX7_byCorners cX7_byCorners 6 (some .boolean)) (rmF 4 69) K 12 ad (cM K ad) [.ref (ad 0), .int l1] σ r σ' := by
  refine MCz_of (own := RX7) (plainFor_of_name (by decide)) hI rfl (Nat.le_of_ble_eq_true rfl) ?_
  intro p e s m args below meth c A Q hx_E hE H locs ls hw hl
  have hx := hx_E.1; have hb := hx_E.2.1; have hown := hx_E.2.2.2.1; have hts := hx_E.2.2.2.2.1
  replace hl : lv_has ls 6 [(0, .ref (ad 0)), (1, .int l1)] := hl
  unfold f_X7_byCorners at h
  refine lv_iconst (v := 0) hx hb dX7_byCorners_0 (by decide) ?_
  refine lv_istore_n (lv' := [(2, .int (0 : Int32)), (0, .ref (ad 0)), (1, .int l1)]) hx hb dX7_byCorners_1 rfl hl (by decide) rfl (fun ls hl => ?_)
  obtain ⟨φ4, h9, h_φ4⟩ := it_b h
  have hJ3 : ∀ (_u : Unit), .inr () = φ4 → ∀ (H : Heap) (locs : List Loc) (ls : Array Slot), PW K 12 ad (cM K ad) A s.heap σ H locs → lv_has ls 6 [] → W p l e (rmF 4 69) s m args below meth c H locs 0 0 Q (F0 m 101 ls []) := by
    intro _u e9 H locs ls hw hl
    subst e9
    replace h := h_φ4
    refine lv_iconst (v := 0) hx hb dX7_byCorners_101 (by decide) ?_
    exact hE hw (congrArg Prod.fst (Option.some.inj h)) (congrArg Prod.snd (Option.some.inj h)) (Or.inl rfl) dX7_byCorners_102
  have hL2 : ∀ (n9 : Nat) (v1 : Int32), ∀ (H : Heap) (locs : List Loc) (ls : Array Slot), f_X7_byCorners_2 l1 σ n9 v1 = some φ4 → PW K 12 ad (cM K ad) A s.heap σ H locs → lv_has ls 6 [(0, .ref (ad 0)), (1, .int l1), (2, .int v1)] → W p l e (rmF 4 69) s m args below meth c H locs 0 0 Q (F0 m 2 ls []) := by
    intro n9
    induction n9 with
    | zero => intro v1 H locs ls h hw hl; rw [f_X7_byCorners_2.eq_1] at h; exact it_n h
    | succ n9 ih =>
      intro v1 H locs ls h hw hl
      rw [f_X7_byCorners_2.eq_2] at h
      refine lv_iload_n hx hb dX7_byCorners_2 rfl (lv_at hl 2 rfl) ?_
      refine lv_aload_n hx hb dX7_byCorners_3 rfl (lv_at hl 0 rfl) ?_
      obtain ⟨v5, k6, h⟩ := it_b h
      refine kV_i (As := []) (rest := [.int v1]) (q := 0) hx_E hw (c_X7_corners l K ad hI   σ k6) mi_X7_corners mv_X7_corners ml_X7_63 (by decide) rfl rfl rfl ⟨⟨Nat.le_of_ble_eq_true rfl, Nat.le_of_ble_eq_true rfl⟩, rfl, rfl⟩ ⟨Nat.zero_le _, Nat.zero_le _⟩ hl.1 rfl (Nat.le_of_ble_eq_true rfl) dX7_byCorners_4 (fun H locs hw => ?_)
      refine lv_icmp_ge (tgt := 101) hx hb dX7_byCorners_7 (by decide) (fun c7 => ?_) (fun c7 => ?_)
      · replace h := it_t c7 h
        have e9 := Option.some.inj h
        subst e9
        exact hJ3 () rfl  H locs ls hw (lv_sub hl [] rfl)
      · replace h := it_f c7 h
        refine lv_aload_n hx hb dX7_byCorners_10 rfl (lv_at hl 0 rfl) ?_
        refine lv_iload_n hx hb dX7_byCorners_11 rfl (lv_at hl 2 rfl) ?_
        refine lv_iconst (v := 0) hx hb dX7_byCorners_12 (by decide) ?_
        obtain ⟨v8, k9, h⟩ := it_b h
        refine kV_i (As := [.int v1, .int (0 : Int32)]) (rest := []) (q := 0) hx_E hw (c_X7_atWith l K ad hI  v1 (0 : Int32) σ k9) mi_X7_atWith mv_X7_atWith ml_X7_79 (by decide) rfl rfl rfl ⟨⟨Nat.le_of_ble_eq_true rfl, Nat.le_of_ble_eq_true rfl⟩, rfl, rfl⟩ ⟨Nat.zero_le _, Nat.zero_le _⟩ hl.1 rfl (Nat.le_of_ble_eq_true rfl) dX7_byCorners_13 (fun H locs hw => ?_)
        refine lv_istore_n (lv' := [(3, .int v8), (0, .ref (ad 0)), (1, .int l1), (2, .int v1)]) hx hb dX7_byCorners_16 rfl hl (by decide) rfl (fun ls hl => ?_)
        refine lv_aload_n hx hb dX7_byCorners_17 rfl (lv_at hl 1 rfl) ?_
        refine lv_iload_n hx hb dX7_byCorners_18 rfl (lv_at hl 3 rfl) ?_
        refine lv_iconst (v := 1) hx hb dX7_byCorners_19 (by decide) ?_
        obtain ⟨v10, k11, h⟩ := it_b h
        refine kV_i (As := [.int v1, .int (1 : Int32)]) (rest := []) (q := 0) hx_E hw (c_X7_atWith l K ad hI  v1 (1 : Int32) σ k11) mi_X7_atWith mv_X7_atWith ml_X7_79 (by decide) rfl rfl rfl ⟨⟨Nat.le_of_ble_eq_true rfl, Nat.le_of_ble_eq_true rfl⟩, rfl, rfl⟩ ⟨Nat.zero_le _, Nat.zero_le _⟩ hl.1 rfl (Nat.le_of_ble_eq_true rfl) dX7_byCorners_20 (fun H locs hw => ?_)
        refine lv_istore (lv' := [(4, .int v10), (3, .int v8), (0, .ref (ad 0)), (1, .int l1), (2, .int v1)]) hx hb dX7_byCorners_23 hl (by decide) rfl (fun ls hl => ?_)
        refine lv_iload_n hx hb dX7_byCorners_25 rfl (lv_at hl 3 rfl) ?_
        refine lv_iconst (v := 2) hx hb dX7_byCorners_26 (by decide) ?_
        obtain ⟨φ15, h9, h_φ15⟩ := it_b h
        have hJ14 : ∀ (v13 : Int32), v13 = φ15 → (v13 = 0 ∨ v13 = 1) → ∀ (H : Heap) (locs : List Loc) (ls : Array Slot), PW K 12 ad (cM K ad) A s.heap σ H locs → lv_has ls 6 [(0, .ref (ad 0)), (1, .int l1), (2, .int v1)] → W p l e (rmF 4 69) s m args below meth c H locs 0 0 Q (F0 m 66 ls [.int v13]) := by
          intro v13 e9 z_v13 H locs ls hw hl
          subst e9
          replace h := h_φ15
          refine lv_istore (lv' := [(5, .int v13), (0, .ref (ad 0)), (1, .int l1), (2, .int v1)]) hx hb dX7_byCorners_66 hl (by decide) rfl (fun ls hl => ?_)
          refine lv_iload hx hb dX7_byCorners_68 (lv_at hl 0 rfl) ?_
          refine lv_if_eq (tgt := 95) hx hb dX7_byCorners_70 (by decide) (fun c20 => ?_) (fun c20 => ?_)
          · replace h := it_t c20 h
            refine lv_iinc (v := (v1 + 1)) (lv' := [(2, .int (v1 + 1)), (5, .int v13), (0, .ref (ad 0)), (1, .int l1)]) hx hb dX7_byCorners_95 hl (k := 3) rfl rfl (by decide) rfl (fun ls hl => ?_)
            refine lv_goto (tgt := 2) hx hb dX7_byCorners_98 (by decide) ?_
            exact ih _   H locs ls h hw (lv_sub hl [2, 3, 0] rfl)
          · replace h := it_f c20 h
            refine lv_aload_n hx hb dX7_byCorners_73 rfl (lv_at hl 1 rfl) ?_
            refine lv_iload_n hx hb dX7_byCorners_74 rfl (lv_at hl 2 rfl) ?_
            refine lv_aload_n hx hb dX7_byCorners_75 rfl (lv_at hl 1 rfl) ?_
            refine lv_iload_n hx hb dX7_byCorners_76 rfl (lv_at hl 3 rfl) ?_
            obtain ⟨v21, k22, h⟩ := it_b h
            refine kV_i (As := [.int v1]) (rest := [.int l1, .ref (ad 0)]) (q := 0) hx_E hw (c_X7_openAt l K ad hI  v1 σ k22) mi_X7_openAt mv_X7_openAt ml_X7_134 (by decide) rfl rfl rfl ⟨⟨Nat.le_of_ble_eq_true rfl, Nat.le_of_ble_eq_true rfl⟩, rfl, rfl⟩ ⟨Nat.zero_le _, Nat.zero_le _⟩ hl.1 rfl (Nat.le_of_ble_eq_true rfl) dX7_byCorners_77 (fun H locs hw => ?_)
            refine lv_iload_n hx hb dX7_byCorners_80 rfl (lv_at hl 2 rfl) ?_
            refine lv_iconst (v := 4) hx hb dX7_byCorners_81 (by decide) ?_
            obtain ⟨φ26, h9, h_φ26⟩ := it_b h
            have hJ25 : ∀ (v24 : Int32), v24 = φ26 → ∀ (H : Heap) (locs : List Loc) (ls : Array Slot), PW K 12 ad (cM K ad) A s.heap σ H locs → lv_has ls 6 [(2, .int v1)] → W p l e (rmF 4 69) s m args below meth c H locs 0 0 Q (F0 m 90 ls [.int v24, .int v21, .int l1, .ref (ad 0)]) := by
              intro v24 e9 H locs ls hw hl
              subst e9
              replace h := h_φ26
              refine lv_iload_n hx hb dX7_byCorners_90 rfl (lv_at hl 0 rfl) ?_
              obtain ⟨⟨v27, σ28⟩, k29, h⟩ := it_b h
              refine kV_z (As := [.int l1, .int v21, .int v24, .int v1]) (rest := []) (q := 0) hx_E hw (c_X7_finds l K ad hI  l1 v21 v24 v1 σ k29) mi_X7_finds mv_X7_finds ml_X7_130 (by decide) rfl rfl rfl ⟨⟨Nat.le_of_ble_eq_true rfl, Nat.le_of_ble_eq_true rfl⟩, rfl, rfl⟩ ⟨Nat.zero_le _, Nat.zero_le _⟩ hl.1 rfl (Nat.le_of_ble_eq_true rfl) dX7_byCorners_91 (fun z30 H locs hw => ?_)
              have e9 := Option.some.inj h
              subst e9
              replace h := h_φ4
              exact hE hw (congrArg Prod.fst (Option.some.inj h)) (congrArg Prod.snd (Option.some.inj h)) z30 dX7_byCorners_94
            replace h := h9
            refine lv_icmp_ne (tgt := 89) hx hb dX7_byCorners_82 (by decide) (fun c23 => ?_) (fun c23 => ?_)
            · replace h := it_f c23 h
              refine lv_iconst (v := 2) hx hb dX7_byCorners_89 (by decide) ?_
              have e9 := Option.some.inj h
              subst e9
              exact hJ25 _ rfl  H locs ls hw (lv_sub hl [3] rfl)
            · replace h := it_t c23 h
              refine lv_iconst (v := 1) hx hb dX7_byCorners_85 (by decide) ?_
              refine lv_goto (tgt := 90) hx hb dX7_byCorners_86 (by decide) ?_
              have e9 := Option.some.inj h
              subst e9
              exact hJ25 _ rfl  H locs ls hw (lv_sub hl [3] rfl)
        replace h := h9
        refine lv_icmp_ne (tgt := 48) hx hb dX7_byCorners_27 (by decide) (fun c12 => ?_) (fun c12 => ?_)
        · replace h := it_f c12 h
          refine lv_iload_n hx hb dX7_byCorners_48 rfl (lv_at hl 1 rfl) ?_
          refine lv_iconst (v := 1) hx hb dX7_byCorners_49 (by decide) ?_
          refine lv_icmp_ne (tgt := 65) hx hb dX7_byCorners_50 (by decide) (fun c16 => ?_) (fun c16 => ?_)
          · replace h := it_f c16 h
            refine lv_iconst (v := 0) hx hb dX7_byCorners_65 (by decide) ?_
            have e9 := Option.some.inj h
            subst e9
            exact hJ14 _ rfl (Or.inl rfl) H locs ls hw (lv_sub hl [2, 3, 4] rfl)
          · replace h := it_t c16 h
            refine lv_iload hx hb dX7_byCorners_53 (lv_at hl 0 rfl) ?_
            refine lv_iload_n hx hb dX7_byCorners_55 rfl (lv_at hl 3 rfl) ?_
            refine lv_iconst (v := 3) hx hb dX7_byCorners_56 (by decide) ?_
            refine lv_isub hx hb dX7_byCorners_57 ?_
            refine lv_icmp_ne (tgt := 65) hx hb dX7_byCorners_58 (by decide) (fun c17 => ?_) (fun c17 => ?_)
            · replace h := it_f c17 h
              refine lv_iconst (v := 0) hx hb dX7_byCorners_65 (by decide) ?_
              have e9 := Option.some.inj h
              subst e9
              exact hJ14 _ rfl (Or.inl rfl) H locs ls hw (lv_sub hl [2, 3, 4] rfl)
            · replace h := it_t c17 h
              refine lv_iconst (v := 1) hx hb dX7_byCorners_61 (by decide) ?_
              refine lv_goto (tgt := 66) hx hb dX7_byCorners_62 (by decide) ?_
              have e9 := Option.some.inj h
              subst e9
              exact hJ14 _ rfl (Or.inr rfl) H locs ls hw (lv_sub hl [2, 3, 4] rfl)
        · replace h := it_t c12 h
          refine lv_iload hx hb dX7_byCorners_30 (lv_at hl 0 rfl) ?_
          refine lv_iconst (v := 2) hx hb dX7_byCorners_32 (by decide) ?_
          refine lv_icmp_ne (tgt := 44) hx hb dX7_byCorners_33 (by decide) (fun c18 => ?_) (fun c18 => ?_)
          · replace h := it_f c18 h
            refine lv_iconst (v := 0) hx hb dX7_byCorners_44 (by decide) ?_
            refine lv_goto (tgt := 66) hx hb dX7_byCorners_45 (by decide) ?_
            have e9 := Option.some.inj h
            subst e9
            exact hJ14 _ rfl (Or.inl rfl) H locs ls hw (lv_sub hl [2, 3, 4] rfl)
          · replace h := it_t c18 h
            refine lv_iload_n hx hb dX7_byCorners_36 rfl (lv_at hl 1 rfl) ?_
            refine lv_if_le (tgt := 44) hx hb dX7_byCorners_37 (by decide) (fun c19 => ?_) (fun c19 => ?_)
            · replace h := it_t c19 h
              refine lv_iconst (v := 0) hx hb dX7_byCorners_44 (by decide) ?_
              refine lv_goto (tgt := 66) hx hb dX7_byCorners_45 (by decide) ?_
              have e9 := Option.some.inj h
              subst e9
              exact hJ14 _ rfl (Or.inl rfl) H locs ls hw (lv_sub hl [2, 3, 4] rfl)
            · replace h := it_f c19 h
              refine lv_iconst (v := 1) hx hb dX7_byCorners_40 (by decide) ?_
              refine lv_goto (tgt := 66) hx hb dX7_byCorners_41 (by decide) ?_
              have e9 := Option.some.inj h
              subst e9
              exact hJ14 _ rfl (Or.inr rfl) H locs ls hw (lv_sub hl [2, 3, 4] rfl)
  exact hL2 600 _  H locs ls h9 hw (lv_sub hl [1, 2, 0] rfl)
