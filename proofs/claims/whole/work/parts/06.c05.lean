set_option maxHeartbeats 4000000 in
set_option maxRecDepth 100000 in
theorem c_X6_digest (l : Launch) (K : vK) (ad : Nat → Nat) (hI : adInj 30 ad) (σ : vSt) {r : Int64} {σ' : vSt} (h : f_X6_digest σ = some (r, σ')) : MCl l yX6_digest (wsY yX6_digest cX6_digest 4 (some .long)) (rmF 7 149) K 30 ad (cC K ad) [.ref (ad 8)] σ r σ' := by
  refine MCl_of (own := RX6) (plainFor_of_name (by decide)) hI rfl (Nat.le_of_ble_eq_true rfl) ?_
  intro p e s m args below meth c A Q hx_E hE H locs ls hw hl
  have hx := hx_E.1; have hb := hx_E.2.1; have hown := hx_E.2.2.2.1; have hts := hx_E.2.2.2.2.1
  replace hl : lv_has ls 4 [(0, .ref (ad 8))] := hl
  unfold f_X6_digest at h
  refine lv_ldc2 (v := 157) hx hb hown (hts _ kl_X6_210) dX6_digest_0 ?_
  refine lv_lstore_n (lv' := [(1, .long (157 : Int64)), (0, .ref (ad 8))]) hx hb dX6_digest_3 rfl hl (by decide) rfl (fun ls hl => ?_)
  refine lv_iconst (v := 0) hx hb dX6_digest_4 (by decide) ?_
  refine lv_istore_n (lv' := [(3, .int (0 : Int32)), (1, .long (157 : Int64)), (0, .ref (ad 8))]) hx hb dX6_digest_5 rfl hl (by decide) rfl (fun ls hl => ?_)
  obtain ⟨φ6, h9, h_φ6⟩ := it_b h
  have hJ5 : ∀ (v3 : Int64), v3 = φ6 → ∀ (H : Heap) (locs : List Loc) (ls : Array Slot), PW K 30 ad (cC K ad) A s.heap σ H locs → lv_has ls 4 [(0, .ref (ad 8)), (1, .long v3)] → W p l e (rmF 7 149) s m args below meth c H locs 0 0 Q (F0 m 31 ls []) := by
    intro v3 e9 H locs ls hw hl
    subst e9
    replace h := h_φ6
    refine lv_iconst (v := 0) hx hb dX6_digest_31 (by decide) ?_
    refine lv_istore_n (lv' := [(3, .int (0 : Int32)), (0, .ref (ad 8)), (1, .long v3)]) hx hb dX6_digest_32 rfl hl (by decide) rfl (fun ls hl => ?_)
    obtain ⟨φ16, h9, h_φ16⟩ := it_b h
    have hJ15 : ∀ (v13 : Int64), v13 = φ16 → ∀ (H : Heap) (locs : List Loc) (ls : Array Slot), PW K 30 ad (cC K ad) A s.heap σ H locs → lv_has ls 4 [(0, .ref (ad 8)), (1, .long v13)] → W p l e (rmF 7 149) s m args below meth c H locs 0 0 Q (F0 m 67 ls []) := by
      intro v13 e9 H locs ls hw hl
      subst e9
      replace h := h_φ16
      refine lv_iconst (v := 0) hx hb dX6_digest_67 (by decide) ?_
      refine lv_istore_n (lv' := [(3, .int (0 : Int32)), (0, .ref (ad 8)), (1, .long v13)]) hx hb dX6_digest_68 rfl hl (by decide) rfl (fun ls hl => ?_)
      obtain ⟨φ25, h9, h_φ25⟩ := it_b h
      have hJ24 : ∀ (v22 : Int64), v22 = φ25 → ∀ (H : Heap) (locs : List Loc) (ls : Array Slot), PW K 30 ad (cC K ad) A s.heap σ H locs → lv_has ls 4 [(0, .ref (ad 8)), (1, .long v22)] → W p l e (rmF 7 149) s m args below meth c H locs 0 0 Q (F0 m 102 ls []) := by
        intro v22 e9 H locs ls hw hl
        subst e9
        replace h := h_φ25
        refine lv_iconst (v := 0) hx hb dX6_digest_102 (by decide) ?_
        refine lv_istore_n (lv' := [(3, .int (0 : Int32)), (0, .ref (ad 8)), (1, .long v22)]) hx hb dX6_digest_103 rfl hl (by decide) rfl (fun ls hl => ?_)
        obtain ⟨φ35, h9, h_φ35⟩ := it_b h
        have hJ34 : ∀ (v32 : Int64), v32 = φ35 → ∀ (H : Heap) (locs : List Loc) (ls : Array Slot), PW K 30 ad (cC K ad) A s.heap σ H locs → lv_has ls 4 [(0, .ref (ad 8)), (1, .long v32)] → W p l e (rmF 7 149) s m args below meth c H locs 0 0 Q (F0 m 128 ls []) := by
          intro v32 e9 H locs ls hw hl
          subst e9
          replace h := h_φ35
          refine lv_aload_n hx hb dX6_digest_128 rfl (lv_at hl 0 rfl) ?_
          refine lv_lload_n hx hb dX6_digest_129 rfl (lv_at hl 1 rfl) ?_
          obtain ⟨⟨v40, σ41⟩, k42, h⟩ := it_b h
          refine kV_l (As := [.long v32]) (rest := []) (q := 8) hx_E hw (c_X6_addHints l K ad hI  v32 σ k42) mi_X6_addHints mv_X6_addHints ml_X6_220 (by decide) rfl rfl rfl ⟨⟨Nat.le_of_ble_eq_true rfl, Nat.le_of_ble_eq_true rfl⟩, rfl, rfl⟩ ⟨Nat.zero_le _, Nat.zero_le _⟩ hl.1 rfl (Nat.le_of_ble_eq_true rfl) dX6_digest_130 (fun H locs hw => ?_)
          refine lv_lstore_n (lv' := [(1, .long v40), (0, .ref (ad 8))]) hx hb dX6_digest_133 rfl hl (by decide) rfl (fun ls hl => ?_)
          refine lv_aload_n hx hb dX6_digest_134 rfl (lv_at hl 1 rfl) ?_
          refine gC_8_3 hx_E hw fl_X6_47 dX6_digest_135 ?_
          refine lv_aload_n hx hb dX6_digest_138 rfl (lv_at hl 1 rfl) ?_
          refine gC_8_1 hx_E hw fl_X6_33 dX6_digest_139 ?_
          refine lv_iconst (v := 2) hx hb dX6_digest_142 (by decide) ?_
          obtain ⟨σ43, k44, h⟩ := it_b h
          refine kV_v (As := [.ref (ad 6), .int (2 : Int32)]) (rest := []) (q := 15) hx_E hw (c_X3_run l K ad hI  (2 : Int32) σ41 k44) mi_X3_run mv_X3_run ml_X6_185 (by decide) rfl rfl rfl ⟨⟨Nat.le_of_ble_eq_true rfl, Nat.le_of_ble_eq_true rfl⟩, rfl, rfl⟩ ⟨Nat.zero_le _, Nat.zero_le _⟩ hl.1 rfl (Nat.le_of_ble_eq_true rfl) dX6_digest_143 (fun H locs hw => ?_)
          refine lv_ldc2 (v := 31) hx hb hown (hts _ kl_X6_212) dX6_digest_146 ?_
          refine lv_lload_n hx hb dX6_digest_149 rfl (lv_at hl 0 rfl) ?_
          refine lv_lmul hx hb dX6_digest_150 ?_
          refine lv_aload_n hx hb dX6_digest_151 rfl (lv_at hl 1 rfl) ?_
          refine gC_8_3 hx_E hw fl_X6_47 dX6_digest_152 ?_
          refine gC_15_4 hx_E hw fl_X6_189 dX6_digest_155 ?_
          refine lv_i2l (v := (gI σ43 15 4).toInt64) hx hb dX6_digest_158 rfl ?_
          refine lv_ladd hx hb dX6_digest_159 ?_
          obtain ⟨v45, e_v45, h⟩ := it_b h
          refine lt_topl (Option.some.inj e_v45) ?_
          refine lv_lstore_n (lv' := [(1, .long v45), (0, .ref (ad 8))]) hx hb dX6_digest_160 rfl hl (by decide) rfl (fun ls hl => ?_)
          refine lv_ldc2 (v := 31) hx hb hown (hts _ kl_X6_212) dX6_digest_161 ?_
          refine lv_lload_n hx hb dX6_digest_164 rfl (lv_at hl 0 rfl) ?_
          refine lv_lmul hx hb dX6_digest_165 ?_
          refine lv_aload_n hx hb dX6_digest_166 rfl (lv_at hl 1 rfl) ?_
          refine gC_8_3 hx_E hw fl_X6_47 dX6_digest_167 ?_
          obtain ⟨v46, k47, h⟩ := it_b h
          refine kV_i (As := []) (rest := [.long ((31 : Int64) * v45)]) (q := 15) hx_E hw (c_X3_nodesTold l K ad hI   σ43 k47) mi_X3_nodesTold mv_X3_nodesTold ml_X6_192 (by decide) rfl rfl rfl ⟨⟨Nat.le_of_ble_eq_true rfl, Nat.le_of_ble_eq_true rfl⟩, rfl, rfl⟩ ⟨Nat.zero_le _, Nat.zero_le _⟩ hl.1 rfl (Nat.le_of_ble_eq_true rfl) dX6_digest_170 (fun H locs hw => ?_)
          refine lv_i2l (v := v46.toInt64) hx hb dX6_digest_173 rfl ?_
          refine lv_ladd hx hb dX6_digest_174 ?_
          obtain ⟨v48, e_v48, h⟩ := it_b h
          refine lt_topl (Option.some.inj e_v48) ?_
          refine lv_lstore_n (lv' := [(1, .long v48), (0, .ref (ad 8))]) hx hb dX6_digest_175 rfl hl (by decide) rfl (fun ls hl => ?_)
          refine lv_ldc2 (v := 31) hx hb hown (hts _ kl_X6_212) dX6_digest_176 ?_
          refine lv_lload_n hx hb dX6_digest_179 rfl (lv_at hl 0 rfl) ?_
          refine lv_lmul hx hb dX6_digest_180 ?_
          refine lv_aload_n hx hb dX6_digest_181 rfl (lv_at hl 1 rfl) ?_
          refine gC_8_2 hx_E hw fl_X6_40 dX6_digest_182 ?_
          obtain ⟨⟨v49, σ50⟩, k51, h⟩ := it_b h
          refine kV_i (As := []) (rest := [.long ((31 : Int64) * v48)]) (q := 10) hx_E hw (c_X4_greatestGrade l K ad hI   σ43 k51) mi_X4_greatestGrade mv_X4_greatestGrade ml_X6_198 (by decide) rfl rfl rfl ⟨⟨Nat.le_of_ble_eq_true rfl, Nat.le_of_ble_eq_true rfl⟩, rfl, rfl⟩ ⟨Nat.zero_le _, Nat.zero_le _⟩ hl.1 rfl (Nat.le_of_ble_eq_true rfl) dX6_digest_185 (fun H locs hw => ?_)
          refine lv_i2l (v := v49.toInt64) hx hb dX6_digest_188 rfl ?_
          refine lv_ladd hx hb dX6_digest_189 ?_
          obtain ⟨v52, e_v52, h⟩ := it_b h
          refine lt_topl (Option.some.inj e_v52) ?_
          refine lv_lstore_n (lv' := [(1, .long v52), (0, .ref (ad 8))]) hx hb dX6_digest_190 rfl hl (by decide) rfl (fun ls hl => ?_)
          refine lv_iconst (v := 0) hx hb dX6_digest_191 (by decide) ?_
          refine lv_istore_n (lv' := [(3, .int (0 : Int32)), (1, .long v52), (0, .ref (ad 8))]) hx hb dX6_digest_192 rfl hl (by decide) rfl (fun ls hl => ?_)
          obtain ⟨φ58, h9, h_φ58⟩ := it_b h
          have hJ57 : ∀ (v55 : Int64), v55 = φ58 → ∀ (H : Heap) (locs : List Loc) (ls : Array Slot), PW K 30 ad (cC K ad) A s.heap σ50 H locs → lv_has ls 4 [(1, .long v55)] → W p l e (rmF 7 149) s m args below meth c H locs 0 0 Q (F0 m 227 ls []) := by
            intro v55 e9 H locs ls hw hl
            subst e9
            replace h := h_φ58
            refine lv_lload_n hx hb dX6_digest_227 rfl (lv_at hl 0 rfl) ?_
            exact hE hw (congrArg Prod.fst (Option.some.inj h)) (congrArg Prod.snd (Option.some.inj h)) dX6_digest_228
          have hL56 : ∀ (n9 : Nat) (v53 : Int64) (v54 : Int32), ∀ (H : Heap) (locs : List Loc) (ls : Array Slot), f_X6_digest_193 σ50 n9 v53 v54 = some φ58 → PW K 30 ad (cC K ad) A s.heap σ50 H locs → lv_has ls 4 [(0, .ref (ad 8)), (1, .long v53), (3, .int v54)] → W p l e (rmF 7 149) s m args below meth c H locs 0 0 Q (F0 m 193 ls []) := by
            intro n9
            induction n9 with
            | zero => intro v53 v54 H locs ls h hw hl; rw [f_X6_digest_193.eq_1] at h; exact it_n h
            | succ n9 ih =>
              intro v53 v54 H locs ls h hw hl
              rw [f_X6_digest_193.eq_2] at h
              refine lv_iload_n hx hb dX6_digest_193 rfl (lv_at hl 2 rfl) ?_
              refine lv_aload_n hx hb dX6_digest_194 rfl (lv_at hl 0 rfl) ?_
              refine gC_8_5 hx_E hw fl_X6_61 dX6_digest_195 ?_
              refine gC_27_2 hx_E hw fl_X6_73 dX6_digest_198 ?_
              refine lv_icmp_ge (tgt := 227) hx hb dX6_digest_201 (by decide) (fun c59 => ?_) (fun c59 => ?_)
              · replace h := it_t c59 h
                have e9 := Option.some.inj h
                subst e9
                exact hJ57 _ rfl  H locs ls hw (lv_sub hl [1] rfl)
              · replace h := it_f c59 h
                refine lv_ldc2 (v := 31) hx hb hown (hts _ kl_X6_212) dX6_digest_204 ?_
                refine lv_lload_n hx hb dX6_digest_207 rfl (lv_at hl 1 rfl) ?_
                refine lv_lmul hx hb dX6_digest_208 ?_
                refine lv_aload_n hx hb dX6_digest_209 rfl (lv_at hl 0 rfl) ?_
                refine gC_8_5 hx_E hw fl_X6_61 dX6_digest_210 ?_
                refine gC_27_0 hx_E hw fl_X6_223 dX6_digest_213 ?_
                refine lv_iload_n hx hb dX6_digest_216 rfl (lv_at hl 2 rfl) ?_
                obtain ⟨g60, h⟩ := it_g h
                refine aC_28 hx_E hw g60 dX6_digest_217 ?_
                refine lv_i2l (v := (gI σ50 28 v54.toNatClampNeg).toInt64) hx hb dX6_digest_218 rfl ?_
                refine lv_ladd hx hb dX6_digest_219 ?_
                obtain ⟨v61, e_v61, h⟩ := it_b h
                refine lt_topl (Option.some.inj e_v61) ?_
                refine lv_lstore_n (lv' := [(1, .long v61), (0, .ref (ad 8)), (3, .int v54)]) hx hb dX6_digest_220 rfl hl (by decide) rfl (fun ls hl => ?_)
                refine lv_iinc (v := (v54 + 1)) (lv' := [(3, .int (v54 + 1)), (1, .long v61), (0, .ref (ad 8))]) hx hb dX6_digest_221 hl (k := 2) rfl rfl (by decide) rfl (fun ls hl => ?_)
                refine lv_goto (tgt := 193) hx hb dX6_digest_224 (by decide) ?_
                exact ih _ _   H locs ls h hw (lv_sub hl [2, 1, 0] rfl)
          exact hL56 600 _ _  H locs ls h9 hw (lv_sub hl [2, 1, 0] rfl)
        have hL33 : ∀ (n9 : Nat) (v30 : Int64) (v31 : Int32), ∀ (H : Heap) (locs : List Loc) (ls : Array Slot), f_X6_digest_104 σ n9 v30 v31 = some φ35 → PW K 30 ad (cC K ad) A s.heap σ H locs → lv_has ls 4 [(0, .ref (ad 8)), (1, .long v30), (3, .int v31)] → W p l e (rmF 7 149) s m args below meth c H locs 0 0 Q (F0 m 104 ls []) := by
          intro n9
          induction n9 with
          | zero => intro v30 v31 H locs ls h hw hl; rw [f_X6_digest_104.eq_1] at h; exact it_n h
          | succ n9 ih =>
            intro v30 v31 H locs ls h hw hl
            rw [f_X6_digest_104.eq_2] at h
            refine lv_iload_n hx hb dX6_digest_104 rfl (lv_at hl 2 rfl) ?_
            refine lv_iconst (v := 4) hx hb dX6_digest_105 (by decide) ?_
            refine lv_icmp_gt (tgt := 128) hx hb dX6_digest_106 (by decide) (fun c36 => ?_) (fun c36 => ?_)
            · replace h := it_t c36 h
              have e9 := Option.some.inj h
              subst e9
              exact hJ34 _ rfl  H locs ls hw (lv_sub hl [0, 1] rfl)
            · replace h := it_f c36 h
              refine lv_ldc2 (v := 31) hx hb hown (hts _ kl_X6_212) dX6_digest_109 ?_
              refine lv_lload_n hx hb dX6_digest_112 rfl (lv_at hl 1 rfl) ?_
              refine lv_lmul hx hb dX6_digest_113 ?_
              refine lv_aload_n hx hb dX6_digest_114 rfl (lv_at hl 0 rfl) ?_
              refine lv_iload_n hx hb dX6_digest_115 rfl (lv_at hl 2 rfl) ?_
              obtain ⟨v37, k38, h⟩ := it_b h
              refine kV_i (As := [.int v31]) (rest := [.long ((31 : Int64) * v30)]) (q := 8) hx_E hw (c_X6_misfit l K ad hI  v31 σ k38) mi_X6_misfit mv_X6_misfit ml_X6_217 (by decide) rfl rfl rfl ⟨⟨Nat.le_of_ble_eq_true rfl, Nat.le_of_ble_eq_true rfl⟩, rfl, rfl⟩ ⟨Nat.zero_le _, Nat.zero_le _⟩ hl.1 rfl (Nat.le_of_ble_eq_true rfl) dX6_digest_116 (fun H locs hw => ?_)
              refine lv_i2l (v := v37.toInt64) hx hb dX6_digest_119 rfl ?_
              refine lv_ladd hx hb dX6_digest_120 ?_
              obtain ⟨v39, e_v39, h⟩ := it_b h
              refine lt_topl (Option.some.inj e_v39) ?_
              refine lv_lstore_n (lv' := [(1, .long v39), (0, .ref (ad 8)), (3, .int v31)]) hx hb dX6_digest_121 rfl hl (by decide) rfl (fun ls hl => ?_)
              refine lv_iinc (v := (v31 + 1)) (lv' := [(3, .int (v31 + 1)), (1, .long v39), (0, .ref (ad 8))]) hx hb dX6_digest_122 hl (k := 2) rfl rfl (by decide) rfl (fun ls hl => ?_)
              refine lv_goto (tgt := 104) hx hb dX6_digest_125 (by decide) ?_
              exact ih _ _   H locs ls h hw (lv_sub hl [2, 1, 0] rfl)
        exact hL33 600 _ _  H locs ls h9 hw (lv_sub hl [1, 2, 0] rfl)
      have hL23 : ∀ (n9 : Nat) (v20 : Int64) (v21 : Int32), ∀ (H : Heap) (locs : List Loc) (ls : Array Slot), f_X6_digest_69 σ n9 v20 v21 = some φ25 → PW K 30 ad (cC K ad) A s.heap σ H locs → lv_has ls 4 [(0, .ref (ad 8)), (1, .long v20), (3, .int v21)] → W p l e (rmF 7 149) s m args below meth c H locs 0 0 Q (F0 m 69 ls []) := by
        intro n9
        induction n9 with
        | zero => intro v20 v21 H locs ls h hw hl; rw [f_X6_digest_69.eq_1] at h; exact it_n h
        | succ n9 ih =>
          intro v20 v21 H locs ls h hw hl
          rw [f_X6_digest_69.eq_2] at h
          refine lv_iload_n hx hb dX6_digest_69 rfl (lv_at hl 2 rfl) ?_
          refine lv_aload_n hx hb dX6_digest_70 rfl (lv_at hl 0 rfl) ?_
          refine gC_8_0 hx_E hw fl_X6_27 dX6_digest_71 ?_
          refine gC_0_9 hx_E hw (by decide) fl_X6_101 dX6_digest_74 ?_
          refine lv_icmp_ge (tgt := 102) hx hb dX6_digest_77 (by decide) (fun c26 => ?_) (fun c26 => ?_)
          · replace h := it_t c26 h
            have e9 := Option.some.inj h
            subst e9
            exact hJ24 _ rfl  H locs ls hw (lv_sub hl [0, 1] rfl)
          · replace h := it_f c26 h
            refine lv_ldc2 (v := 31) hx hb hown (hts _ kl_X6_212) dX6_digest_80 ?_
            refine lv_lload_n hx hb dX6_digest_83 rfl (lv_at hl 1 rfl) ?_
            refine lv_lmul hx hb dX6_digest_84 ?_
            refine lv_aload_n hx hb dX6_digest_85 rfl (lv_at hl 0 rfl) ?_
            refine gC_8_1 hx_E hw fl_X6_33 dX6_digest_86 ?_
            refine lv_iload_n hx hb dX6_digest_89 rfl (lv_at hl 2 rfl) ?_
            obtain ⟨v27, k28, h⟩ := it_b h
            refine kV_i (As := [.int v21]) (rest := [.long ((31 : Int64) * v20)]) (q := 6) hx_E hw (c_X0_markOf l K 30 ad hI 6 isB_6 v21 σ k28) mi_X0_markOf mv_X0_markOf ml_X6_118 (by decide) rfl rfl rfl ⟨⟨Nat.le_of_ble_eq_true rfl, Nat.le_of_ble_eq_true rfl⟩, rfl, rfl⟩ ⟨Nat.zero_le _, Nat.zero_le _⟩ hl.1 rfl (Nat.le_of_ble_eq_true rfl) dX6_digest_90 (fun H locs hw => ?_)
            refine lv_i2l (v := v27.toInt64) hx hb dX6_digest_93 rfl ?_
            refine lv_ladd hx hb dX6_digest_94 ?_
            obtain ⟨v29, e_v29, h⟩ := it_b h
            refine lt_topl (Option.some.inj e_v29) ?_
            refine lv_lstore_n (lv' := [(1, .long v29), (0, .ref (ad 8)), (3, .int v21)]) hx hb dX6_digest_95 rfl hl (by decide) rfl (fun ls hl => ?_)
            refine lv_iinc (v := (v21 + 1)) (lv' := [(3, .int (v21 + 1)), (1, .long v29), (0, .ref (ad 8))]) hx hb dX6_digest_96 hl (k := 2) rfl rfl (by decide) rfl (fun ls hl => ?_)
            refine lv_goto (tgt := 69) hx hb dX6_digest_99 (by decide) ?_
            exact ih _ _   H locs ls h hw (lv_sub hl [2, 1, 0] rfl)
      exact hL23 600 _ _  H locs ls h9 hw (lv_sub hl [1, 2, 0] rfl)
    have hL14 : ∀ (n9 : Nat) (v11 : Int64) (v12 : Int32), ∀ (H : Heap) (locs : List Loc) (ls : Array Slot), f_X6_digest_33 σ n9 v11 v12 = some φ16 → PW K 30 ad (cC K ad) A s.heap σ H locs → lv_has ls 4 [(0, .ref (ad 8)), (1, .long v11), (3, .int v12)] → W p l e (rmF 7 149) s m args below meth c H locs 0 0 Q (F0 m 33 ls []) := by
      intro n9
      induction n9 with
      | zero => intro v11 v12 H locs ls h hw hl; rw [f_X6_digest_33.eq_1] at h; exact it_n h
      | succ n9 ih =>
        intro v11 v12 H locs ls h hw hl
        rw [f_X6_digest_33.eq_2] at h
        refine lv_iload_n hx hb dX6_digest_33 rfl (lv_at hl 2 rfl) ?_
        refine lv_aload_n hx hb dX6_digest_34 rfl (lv_at hl 0 rfl) ?_
        refine gC_8_0 hx_E hw fl_X6_27 dX6_digest_35 ?_
        refine gC_0_7 hx_E hw (by decide) fl_X6_91 dX6_digest_38 ?_
        refine lv_icmp_ge (tgt := 67) hx hb dX6_digest_41 (by decide) (fun c17 => ?_) (fun c17 => ?_)
        · replace h := it_t c17 h
          have e9 := Option.some.inj h
          subst e9
          exact hJ15 _ rfl  H locs ls hw (lv_sub hl [0, 1] rfl)
        · replace h := it_f c17 h
          refine lv_ldc2 (v := 31) hx hb hown (hts _ kl_X6_212) dX6_digest_44 ?_
          refine lv_lload_n hx hb dX6_digest_47 rfl (lv_at hl 1 rfl) ?_
          refine lv_lmul hx hb dX6_digest_48 ?_
          refine lv_aload_n hx hb dX6_digest_49 rfl (lv_at hl 0 rfl) ?_
          refine gC_8_0 hx_E hw fl_X6_27 dX6_digest_50 ?_
          refine gC_0_0 hx_E hw (by decide) fl_X6_94 dX6_digest_53 ?_
          refine lv_iload_n hx hb dX6_digest_56 rfl (lv_at hl 2 rfl) ?_
          obtain ⟨g18, h⟩ := it_g h
          refine aC_1 hx_E hw (by decide) g18 dX6_digest_57 ?_
          refine lv_i2l (v := (gI σ 1 v12.toNatClampNeg).toInt64) hx hb dX6_digest_58 rfl ?_
          refine lv_ladd hx hb dX6_digest_59 ?_
          obtain ⟨v19, e_v19, h⟩ := it_b h
          refine lt_topl (Option.some.inj e_v19) ?_
          refine lv_lstore_n (lv' := [(1, .long v19), (0, .ref (ad 8)), (3, .int v12)]) hx hb dX6_digest_60 rfl hl (by decide) rfl (fun ls hl => ?_)
          refine lv_iinc (v := (v12 + 1)) (lv' := [(3, .int (v12 + 1)), (1, .long v19), (0, .ref (ad 8))]) hx hb dX6_digest_61 hl (k := 2) rfl rfl (by decide) rfl (fun ls hl => ?_)
          refine lv_goto (tgt := 33) hx hb dX6_digest_64 (by decide) ?_
          exact ih _ _   H locs ls h hw (lv_sub hl [2, 1, 0] rfl)
    exact hL14 600 _ _  H locs ls h9 hw (lv_sub hl [1, 2, 0] rfl)
  have hL4 : ∀ (n9 : Nat) (v1 : Int64) (v2 : Int32), ∀ (H : Heap) (locs : List Loc) (ls : Array Slot), f_X6_digest_6 σ n9 v1 v2 = some φ6 → PW K 30 ad (cC K ad) A s.heap σ H locs → lv_has ls 4 [(0, .ref (ad 8)), (1, .long v1), (3, .int v2)] → W p l e (rmF 7 149) s m args below meth c H locs 0 0 Q (F0 m 6 ls []) := by
    intro n9
    induction n9 with
    | zero => intro v1 v2 H locs ls h hw hl; rw [f_X6_digest_6.eq_1] at h; exact it_n h
    | succ n9 ih =>
      intro v1 v2 H locs ls h hw hl
      rw [f_X6_digest_6.eq_2] at h
      refine lv_iload_n hx hb dX6_digest_6 rfl (lv_at hl 2 rfl) ?_
      refine lv_bipush (v := 15) hx hb dX6_digest_7 (by decide) ?_
      refine lv_icmp_gt (tgt := 31) hx hb dX6_digest_9 (by decide) (fun c7 => ?_) (fun c7 => ?_)
      · replace h := it_t c7 h
        have e9 := Option.some.inj h
        subst e9
        exact hJ5 _ rfl  H locs ls hw (lv_sub hl [0, 1] rfl)
      · replace h := it_f c7 h
        refine lv_ldc2 (v := 31) hx hb hown (hts _ kl_X6_212) dX6_digest_12 ?_
        refine lv_lload_n hx hb dX6_digest_15 rfl (lv_at hl 1 rfl) ?_
        refine lv_lmul hx hb dX6_digest_16 ?_
        refine lv_aload_n hx hb dX6_digest_17 rfl (lv_at hl 0 rfl) ?_
        refine lv_iload_n hx hb dX6_digest_18 rfl (lv_at hl 2 rfl) ?_
        obtain ⟨v8, k9, h⟩ := it_b h
        refine kV_i (As := [.int v2]) (rest := [.long ((31 : Int64) * v1)]) (q := 8) hx_E hw (c_X6_count l K ad hI  v2 σ k9) mi_X6_count mv_X6_count ml_X6_214 (by decide) rfl rfl rfl ⟨⟨Nat.le_of_ble_eq_true rfl, Nat.le_of_ble_eq_true rfl⟩, rfl, rfl⟩ ⟨Nat.zero_le _, Nat.zero_le _⟩ hl.1 rfl (Nat.le_of_ble_eq_true rfl) dX6_digest_19 (fun H locs hw => ?_)
        refine lv_i2l (v := v8.toInt64) hx hb dX6_digest_22 rfl ?_
        refine lv_ladd hx hb dX6_digest_23 ?_
        obtain ⟨v10, e_v10, h⟩ := it_b h
        refine lt_topl (Option.some.inj e_v10) ?_
        refine lv_lstore_n (lv' := [(1, .long v10), (0, .ref (ad 8)), (3, .int v2)]) hx hb dX6_digest_24 rfl hl (by decide) rfl (fun ls hl => ?_)
        refine lv_iinc (v := (v2 + 1)) (lv' := [(3, .int (v2 + 1)), (1, .long v10), (0, .ref (ad 8))]) hx hb dX6_digest_25 hl (k := 2) rfl rfl (by decide) rfl (fun ls hl => ?_)
        refine lv_goto (tgt := 6) hx hb dX6_digest_28 (by decide) ?_
        exact ih _ _   H locs ls h hw (lv_sub hl [2, 1, 0] rfl)
  exact hL4 600 _ _  H locs ls h9 hw (lv_sub hl [2, 1, 0] rfl)
set_option maxHeartbeats 4000000 in
set_option maxRecDepth 100000 in
theorem c_X7_in (l : Launch) (K : vK) (l0 : Int32) (l1 : Int32) (l2 : Int32) {r : Int32} (h : f_X7_in l0 l1 l2 = some r) : MCz l yX7_in (wsY yX7_in cX7_in 3 (some .boolean)) (rmF 1 0) K 0 ad_0 (cf_0) [.int l0, .int l1, .int l2] st_0 r st_0 := by
  refine MCz_of (own := RX7) (plainFor_of_name (by decide)) adInj_0 rfl (Nat.le_of_ble_eq_true rfl) ?_
  intro p e s m args below meth c A Q hx_E hE H locs ls hw hl
  have hx := hx_E.1; have hb := hx_E.2.1; have hown := hx_E.2.2.2.1; have hts := hx_E.2.2.2.2.1
  replace hl : lv_has ls 3 [(0, .int l0), (1, .int l1), (2, .int l2)] := hl
  unfold f_X7_in at h
  refine lv_iload_n hx hb dX7_in_0 rfl (lv_at hl 0 rfl) ?_
  refine lv_iload_n hx hb dX7_in_1 rfl (lv_at hl 1 rfl) ?_
  refine lv_icmp_lt (tgt := 14) hx hb dX7_in_2 (by decide) (fun c1 => ?_) (fun c1 => ?_)
  · replace h := it_t c1 h
    refine lv_iconst (v := 0) hx hb dX7_in_14 (by decide) ?_
    exact hE hw (Option.some.inj h) rfl (Or.inl rfl) dX7_in_15
  · replace h := it_f c1 h
    refine lv_iload_n hx hb dX7_in_5 rfl (lv_at hl 0 rfl) ?_
    refine lv_iload_n hx hb dX7_in_6 rfl (lv_at hl 2 rfl) ?_
    refine lv_icmp_gt (tgt := 14) hx hb dX7_in_7 (by decide) (fun c2 => ?_) (fun c2 => ?_)
    · replace h := it_t c2 h
      refine lv_iconst (v := 0) hx hb dX7_in_14 (by decide) ?_
      exact hE hw (Option.some.inj h) rfl (Or.inl rfl) dX7_in_15
    · replace h := it_f c2 h
      refine lv_iconst (v := 1) hx hb dX7_in_10 (by decide) ?_
      refine lv_goto (tgt := 15) hx hb dX7_in_11 (by decide) ?_
      exact hE hw (Option.some.inj h) rfl (Or.inr rfl) dX7_in_15
set_option maxHeartbeats 4000000 in
set_option maxRecDepth 100000 in
theorem c_X7_keeps (l : Launch) (K : vK) (ad : Nat → Nat) (hI : adInj 12 ad) (σ : vSt) {σ' : vSt} (h : f_X7_keeps σ = some σ') : MCv l yX7_keeps (wsY yX7_keeps cX7_keeps 2 none) (rmF 1 0) K 12 ad (cM K ad) [.ref (ad 0)] σ σ' := by
  refine MCv_of (own := RX7) (plainFor_of_name (by decide)) hI rfl (Nat.le_of_ble_eq_true rfl) ?_
  intro p e s m args below meth c A Q hx_E hE H locs ls hw hl
  have hx := hx_E.1; have hb := hx_E.2.1; have hown := hx_E.2.2.2.1; have hts := hx_E.2.2.2.2.1
  replace hl : lv_has ls 2 [(0, .ref (ad 0))] := hl
  unfold f_X7_keeps at h
  refine lv_aload_n hx hb dX7_keeps_0 rfl (lv_at hl 0 rfl) ?_
  refine gM_0_2 hx_E hw fl_X7_44 dX7_keeps_1 ?_
  refine lv_bipush (v := 8) hx hb dX7_keeps_4 (by decide) ?_
  obtain ⟨φ4, h9, h_φ4⟩ := it_b h
  have hJ3 : ∀ (σ2 : vSt), σ2 = φ4 → ∀ (H : Heap) (locs : List Loc) (ls : Array Slot), PW K 12 ad (cM K ad) A s.heap σ2 H locs → lv_has ls 2 [(0, .ref (ad 0))] → W p l e (rmF 1 0) s m args below meth c H locs 0 0 Q (F0 m 49 ls []) := by
    intro σ2 e9 H locs ls hw hl
    subst e9
    replace h := h_φ4
    refine lv_iconst (v := 0) hx hb dX7_keeps_49 (by decide) ?_
    refine lv_istore_n (lv' := [(1, .int (0 : Int32)), (0, .ref (ad 0))]) hx hb dX7_keeps_50 rfl hl (by decide) rfl (fun ls hl => ?_)
    obtain ⟨φ20, h9, h_φ20⟩ := it_b h
    have hJ19 : ∀ (σ17 : vSt), σ17 = φ20 → ∀ (H : Heap) (locs : List Loc) (ls : Array Slot), PW K 12 ad (cM K ad) A s.heap σ17 H locs → lv_has ls 2 [(0, .ref (ad 0))] → W p l e (rmF 1 0) s m args below meth c H locs 0 0 Q (F0 m 83 ls []) := by
      intro σ17 e9 H locs ls hw hl
      subst e9
      replace h := h_φ20
      refine lv_aload_n hx hb dX7_keeps_83 rfl (lv_at hl 0 rfl) ?_
      refine lv_dup hx hb dX7_keeps_84 rfl ?_
      refine gM_0_2 hx_E hw fl_X7_44 dX7_keeps_85 ?_
      refine lv_iconst (v := 1) hx hb dX7_keeps_88 (by decide) ?_
      refine lv_iadd hx hb dX7_keeps_89 ?_
      refine pM_0_2 hx_E hw fl_X7_44 dX7_keeps_90 (fun H locs hw => ?_)
      exact hE hw (Option.some.inj h) dX7_keeps_93
    have hL18 : ∀ (n9 : Nat) (v15 : Int32) (σ16 : vSt), ∀ (H : Heap) (locs : List Loc) (ls : Array Slot), f_X7_keeps_51  n9 v15 σ16 = some φ20 → PW K 12 ad (cM K ad) A s.heap σ16 H locs → lv_has ls 2 [(0, .ref (ad 0)), (1, .int v15)] → W p l e (rmF 1 0) s m args below meth c H locs 0 0 Q (F0 m 51 ls []) := by
      intro n9
      induction n9 with
      | zero => intro v15 σ16 H locs ls h hw hl; rw [f_X7_keeps_51.eq_1] at h; exact it_n h
      | succ n9 ih =>
        intro v15 σ16 H locs ls h hw hl
        rw [f_X7_keeps_51.eq_2] at h
        refine lv_iload_n hx hb dX7_keeps_51 rfl (lv_at hl 1 rfl) ?_
        refine lv_bipush (v := 66) hx hb dX7_keeps_52 (by decide) ?_
        refine lv_icmp_ge (tgt := 83) hx hb dX7_keeps_54 (by decide) (fun c21 => ?_) (fun c21 => ?_)
        · replace h := it_t c21 h
          have e9 := Option.some.inj h
          subst e9
          exact hJ19 _ rfl  H locs ls hw (lv_sub hl [0] rfl)
        · replace h := it_f c21 h
          refine lv_aload_n hx hb dX7_keeps_57 rfl (lv_at hl 0 rfl) ?_
          refine gM_0_1 hx_E hw fl_X7_13 dX7_keeps_58 ?_
          refine lv_bipush (v := 66) hx hb dX7_keeps_61 (by decide) ?_
          refine lv_aload_n hx hb dX7_keeps_63 rfl (lv_at hl 0 rfl) ?_
          refine gM_0_2 hx_E hw fl_X7_44 dX7_keeps_64 ?_
          refine lv_imul hx hb dX7_keeps_67 ?_
          refine lv_iload_n hx hb dX7_keeps_68 rfl (lv_at hl 1 rfl) ?_
          refine lv_iadd hx hb dX7_keeps_69 ?_
          refine lv_aload_n hx hb dX7_keeps_70 rfl (lv_at hl 0 rfl) ?_
          refine gM_0_0 hx_E hw fl_X7_7 dX7_keeps_71 ?_
          refine lv_iload_n hx hb dX7_keeps_74 rfl (lv_at hl 1 rfl) ?_
          obtain ⟨g22, h⟩ := it_g h
          refine aM_1 hx_E hw g22 dX7_keeps_75 ?_
          obtain ⟨g23, h⟩ := it_g h
          refine sM_2 hx_E hw g23 dX7_keeps_76 (fun H locs hw => ?_)
          refine lv_iinc (v := (v15 + 1)) (lv' := [(1, .int (v15 + 1)), (0, .ref (ad 0))]) hx hb dX7_keeps_77 hl (k := 1) rfl rfl (by decide) rfl (fun ls hl => ?_)
          refine lv_goto (tgt := 51) hx hb dX7_keeps_80 (by decide) ?_
          exact ih _ _  H locs ls h hw (lv_sub hl [1, 0] rfl)
    exact hL18 600 _ _  H locs ls h9 hw (lv_sub hl [1, 0] rfl)
  replace h := h9
  refine lv_icmp_ne (tgt := 49) hx hb dX7_keeps_6 (by decide) (fun c1 => ?_) (fun c1 => ?_)
  · replace h := it_f c1 h
    have e9 := Option.some.inj h
    subst e9
    exact hJ3 _ rfl  H locs ls hw (lv_sub hl [0] rfl)
  · replace h := it_t c1 h
    refine lv_iconst (v := 0) hx hb dX7_keeps_9 (by decide) ?_
    refine lv_istore_n (lv' := [(1, .int (0 : Int32)), (0, .ref (ad 0))]) hx hb dX7_keeps_10 rfl hl (by decide) rfl (fun ls hl => ?_)
    obtain ⟨φ11, h9, h_φ11⟩ := it_b h
    have hJ10 : ∀ (σ7 : vSt), σ7 = φ11 → ∀ (H : Heap) (locs : List Loc) (ls : Array Slot), PW K 12 ad (cM K ad) A s.heap σ7 H locs → lv_has ls 2 [(0, .ref (ad 0))] → W p l e (rmF 1 0) s m args below meth c H locs 0 0 Q (F0 m 39 ls []) := by
      intro σ7 e9 H locs ls hw hl
      subst e9
      replace h := h_φ11
      refine lv_aload_n hx hb dX7_keeps_39 rfl (lv_at hl 0 rfl) ?_
      refine lv_dup hx hb dX7_keeps_40 rfl ?_
      refine gM_0_2 hx_E hw fl_X7_44 dX7_keeps_41 ?_
      refine lv_iconst (v := 1) hx hb dX7_keeps_44 (by decide) ?_
      refine lv_isub hx hb dX7_keeps_45 ?_
      refine pM_0_2 hx_E hw fl_X7_44 dX7_keeps_46 (fun H locs hw => ?_)
      have e9 := Option.some.inj h
      subst e9
      exact hJ3 _ rfl  H locs ls hw (lv_sub hl [0] rfl)
    have hL9 : ∀ (n9 : Nat) (v5 : Int32) (σ6 : vSt), ∀ (H : Heap) (locs : List Loc) (ls : Array Slot), f_X7_keeps_11x8  n9 v5 σ6 = some φ11 → PW K 12 ad (cM K ad) A s.heap σ6 H locs → lv_has ls 2 [(0, .ref (ad 0)), (1, .int v5)] → W p l e (rmF 1 0) s m args below meth c H locs 0 0 Q (F0 m 11 ls []) := by
      intro n9
      induction n9 with
      | zero => intro v5 σ6 H locs ls h hw hl; rw [f_X7_keeps_11x8.eq_1] at h; exact it_n h
      | succ n9 ih =>
        intro v5 σ6 H locs ls h hw hl
        rw [f_X7_keeps_11x8.eq_2] at h
        refine lv_iload_n hx hb dX7_keeps_11 rfl (lv_at hl 1 rfl) ?_
        refine lv_sipush (v := 462) hx hb dX7_keeps_12 (by decide) ?_
        refine lv_icmp_ge (tgt := 39) hx hb dX7_keeps_15 (by decide) (fun c12 => ?_) (fun c12 => ?_)
        · replace h := it_t c12 h
          have e9 := Option.some.inj h
          subst e9
          exact hJ10 _ rfl  H locs ls hw (lv_sub hl [0] rfl)
        · replace h := it_f c12 h
          refine lv_aload_n hx hb dX7_keeps_18 rfl (lv_at hl 0 rfl) ?_
          refine gM_0_1 hx_E hw fl_X7_13 dX7_keeps_19 ?_
          refine lv_iload_n hx hb dX7_keeps_22 rfl (lv_at hl 1 rfl) ?_
          refine lv_aload_n hx hb dX7_keeps_23 rfl (lv_at hl 0 rfl) ?_
          refine gM_0_1 hx_E hw fl_X7_13 dX7_keeps_24 ?_
          refine lv_iload_n hx hb dX7_keeps_27 rfl (lv_at hl 1 rfl) ?_
          refine lv_bipush (v := 66) hx hb dX7_keeps_28 (by decide) ?_
          refine lv_iadd hx hb dX7_keeps_30 ?_
          obtain ⟨g13, h⟩ := it_g h
          refine aM_2 hx_E hw g13 dX7_keeps_31 ?_
          obtain ⟨g14, h⟩ := it_g h
          refine sM_2 hx_E hw g14 dX7_keeps_32 (fun H locs hw => ?_)
          refine lv_iinc (v := (v5 + 1)) (lv' := [(1, .int (v5 + 1)), (0, .ref (ad 0))]) hx hb dX7_keeps_33 hl (k := 1) rfl rfl (by decide) rfl (fun ls hl => ?_)
          refine lv_goto (tgt := 11) hx hb dX7_keeps_36 (by decide) ?_
          exact ih _ _  H locs ls h hw (lv_sub hl [1, 0] rfl)
    exact hL9 600 _ _  H locs ls h9 hw (lv_sub hl [1, 0] rfl)
set_option maxHeartbeats 4000000 in
set_option maxRecDepth 100000 in
theorem c_X7_undo (l : Launch) (K : vK) (ad : Nat → Nat) (hI : adInj 12 ad) (σ : vSt) {r : Int32} {σ' : vSt} (h : f_X7_undo σ = some (r, σ')) : MCi l yX7_undo (wsY yX7_undo cX7_undo 2 (some .int)) (rmF 1 0) K 12 ad (cM K ad) [.ref (ad 0)] σ r σ' := by
  refine MCi_of (own := RX7) (plainFor_of_name (by decide)) hI rfl (Nat.le_of_ble_eq_true rfl) ?_
  intro p e s m args below meth c A Q hx_E hE H locs ls hw hl
  have hx := hx_E.1; have hb := hx_E.2.1; have hown := hx_E.2.2.2.1; have hts := hx_E.2.2.2.2.1
  replace hl : lv_has ls 2 [(0, .ref (ad 0))] := hl
  unfold f_X7_undo at h
  refine lv_aload_n hx hb dX7_undo_0 rfl (lv_at hl 0 rfl) ?_
  refine gM_0_2 hx_E hw fl_X7_44 dX7_undo_1 ?_
  refine lv_if_ne (tgt := 10) hx hb dX7_undo_4 (by decide) (fun c1 => ?_) (fun c1 => ?_)
  · replace h := it_f c1 h
    refine lv_aload_n hx hb dX7_undo_10 rfl (lv_at hl 0 rfl) ?_
    refine lv_dup hx hb dX7_undo_11 rfl ?_
    refine gM_0_2 hx_E hw fl_X7_44 dX7_undo_12 ?_
    refine lv_iconst (v := 1) hx hb dX7_undo_15 (by decide) ?_
    refine lv_isub hx hb dX7_undo_16 ?_
    refine pM_0_2 hx_E hw fl_X7_44 dX7_undo_17 (fun H locs hw => ?_)
    refine lv_iconst (v := 0) hx hb dX7_undo_20 (by decide) ?_
    refine lv_istore_n (lv' := [(1, .int (0 : Int32)), (0, .ref (ad 0))]) hx hb dX7_undo_21 rfl hl (by decide) rfl (fun ls hl => ?_)
    obtain ⟨σ2, e_σ2, h⟩ := it_b h
    replace hw := PW_cast (Option.some.inj e_σ2) hw
    obtain ⟨φ8, h9, h_φ8⟩ := it_b h
    have hJ7 : ∀ (σ5 : vSt), σ5 = φ8 → ∀ (H : Heap) (locs : List Loc) (ls : Array Slot), PW K 12 ad (cM K ad) A s.heap σ5 H locs → lv_has ls 2 [(0, .ref (ad 0))] → W p l e (rmF 1 0) s m args below meth c H locs 0 0 Q (F0 m 54 ls []) := by
      intro σ5 e9 H locs ls hw hl
      subst e9
      replace h := h_φ8
      refine lv_aload_n hx hb dX7_undo_54 rfl (lv_at hl 0 rfl) ?_
      refine gM_0_2 hx_E hw fl_X7_44 dX7_undo_55 ?_
      exact hE hw (congrArg Prod.fst (Option.some.inj h)) (congrArg Prod.snd (Option.some.inj h)) dX7_undo_58
    have hL6 : ∀ (n9 : Nat) (v3 : Int32) (σ4 : vSt), ∀ (H : Heap) (locs : List Loc) (ls : Array Slot), f_X7_undo_22  n9 v3 σ4 = some φ8 → PW K 12 ad (cM K ad) A s.heap σ4 H locs → lv_has ls 2 [(0, .ref (ad 0)), (1, .int v3)] → W p l e (rmF 1 0) s m args below meth c H locs 0 0 Q (F0 m 22 ls []) := by
      intro n9
      induction n9 with
      | zero => intro v3 σ4 H locs ls h hw hl; rw [f_X7_undo_22.eq_1] at h; exact it_n h
      | succ n9 ih =>
        intro v3 σ4 H locs ls h hw hl
        rw [f_X7_undo_22.eq_2] at h
        refine lv_iload_n hx hb dX7_undo_22 rfl (lv_at hl 1 rfl) ?_
        refine lv_bipush (v := 66) hx hb dX7_undo_23 (by decide) ?_
        refine lv_icmp_ge (tgt := 54) hx hb dX7_undo_25 (by decide) (fun c9 => ?_) (fun c9 => ?_)
        · replace h := it_t c9 h
          have e9 := Option.some.inj h
          subst e9
          exact hJ7 _ rfl  H locs ls hw (lv_sub hl [0] rfl)
        · replace h := it_f c9 h
          refine lv_aload_n hx hb dX7_undo_28 rfl (lv_at hl 0 rfl) ?_
          refine gM_0_0 hx_E hw fl_X7_7 dX7_undo_29 ?_
          refine lv_iload_n hx hb dX7_undo_32 rfl (lv_at hl 1 rfl) ?_
          refine lv_aload_n hx hb dX7_undo_33 rfl (lv_at hl 0 rfl) ?_
          refine gM_0_1 hx_E hw fl_X7_13 dX7_undo_34 ?_
          refine lv_bipush (v := 66) hx hb dX7_undo_37 (by decide) ?_
          refine lv_aload_n hx hb dX7_undo_39 rfl (lv_at hl 0 rfl) ?_
          refine gM_0_2 hx_E hw fl_X7_44 dX7_undo_40 ?_
          refine lv_imul hx hb dX7_undo_43 ?_
          refine lv_iload_n hx hb dX7_undo_44 rfl (lv_at hl 1 rfl) ?_
          refine lv_iadd hx hb dX7_undo_45 ?_
          obtain ⟨g10, h⟩ := it_g h
          refine aM_2 hx_E hw g10 dX7_undo_46 ?_
          obtain ⟨g11, h⟩ := it_g h
          refine sM_1 hx_E hw g11 dX7_undo_47 (fun H locs hw => ?_)
          refine lv_iinc (v := (v3 + 1)) (lv' := [(1, .int (v3 + 1)), (0, .ref (ad 0))]) hx hb dX7_undo_48 hl (k := 1) rfl rfl (by decide) rfl (fun ls hl => ?_)
          refine lv_goto (tgt := 22) hx hb dX7_undo_51 (by decide) ?_
          exact ih _ _  H locs ls h hw (lv_sub hl [1, 0] rfl)
    exact hL6 600 _ _  H locs ls h9 hw (lv_sub hl [1, 0] rfl)
  · replace h := it_t c1 h
    refine lv_bipush (v := -3) hx hb dX7_undo_7 (by decide) ?_
    exact hE hw (congrArg Prod.fst (Option.some.inj h)) (congrArg Prod.snd (Option.some.inj h)) dX7_undo_9
set_option maxHeartbeats 4000000 in
set_option maxRecDepth 100000 in
theorem c_X7_cells (l : Launch) (K : vK) (ad : Nat → Nat) (hI : adInj 12 ad) (σ : vSt) {r : Int32} (h : f_X7_cells σ = some r) : MCi l yX7_cells (wsY yX7_cells cX7_cells 1 (some .int)) (rmF 1 0) K 12 ad (cM K ad) [.ref (ad 0)] σ r σ := by
  refine MCi_of (own := RX7) (plainFor_of_name (by decide)) hI rfl (Nat.le_of_ble_eq_true rfl) ?_
  intro p e s m args below meth c A Q hx_E hE H locs ls hw hl
  have hx := hx_E.1; have hb := hx_E.2.1; have hown := hx_E.2.2.2.1; have hts := hx_E.2.2.2.2.1
  replace hl : lv_has ls 1 [(0, .ref (ad 0))] := hl
  unfold f_X7_cells at h
  refine lv_aload_n hx hb dX7_cells_0 rfl (lv_at hl 0 rfl) ?_
  refine gM_0_0 hx_E hw fl_X7_7 dX7_cells_1 ?_
  refine lv_iconst (v := 0) hx hb dX7_cells_4 (by decide) ?_
  refine acM_1 hx_E hw (by decide) rfl dX7_cells_5 ?_
  refine lv_aload_n hx hb dX7_cells_6 rfl (lv_at hl 0 rfl) ?_
  refine gM_0_0 hx_E hw fl_X7_7 dX7_cells_7 ?_
  refine lv_iconst (v := 1) hx hb dX7_cells_10 (by decide) ?_
  refine acM_1 hx_E hw (by decide) rfl dX7_cells_11 ?_
  refine lv_imul hx hb dX7_cells_12 ?_
  exact hE hw (Option.some.inj h) rfl dX7_cells_13
set_option maxHeartbeats 4000000 in
set_option maxRecDepth 100000 in
theorem c_X7_corners (l : Launch) (K : vK) (ad : Nat → Nat) (hI : adInj 12 ad) (σ : vSt) {r : Int32} (h : f_X7_corners σ = some r) : MCi l yX7_corners (wsY yX7_corners cX7_corners 1 (some .int)) (rmF 1 0) K 12 ad (cM K ad) [.ref (ad 0)] σ r σ := by
  refine MCi_of (own := RX7) (plainFor_of_name (by decide)) hI rfl (Nat.le_of_ble_eq_true rfl) ?_
  intro p e s m args below meth c A Q hx_E hE H locs ls hw hl
  have hx := hx_E.1; have hb := hx_E.2.1; have hown := hx_E.2.2.2.1; have hts := hx_E.2.2.2.2.1
  replace hl : lv_has ls 1 [(0, .ref (ad 0))] := hl
  unfold f_X7_corners at h
  refine lv_aload_n hx hb dX7_corners_0 rfl (lv_at hl 0 rfl) ?_
  refine gM_0_0 hx_E hw fl_X7_7 dX7_corners_1 ?_
  refine lv_iconst (v := 0) hx hb dX7_corners_4 (by decide) ?_
  refine acM_1 hx_E hw (by decide) rfl dX7_corners_5 ?_
  refine lv_iconst (v := 1) hx hb dX7_corners_6 (by decide) ?_
  refine lv_iadd hx hb dX7_corners_7 ?_
  refine lv_aload_n hx hb dX7_corners_8 rfl (lv_at hl 0 rfl) ?_
  refine gM_0_0 hx_E hw fl_X7_7 dX7_corners_9 ?_
  refine lv_iconst (v := 1) hx hb dX7_corners_12 (by decide) ?_
  refine acM_1 hx_E hw (by decide) rfl dX7_corners_13 ?_
  refine lv_iconst (v := 1) hx hb dX7_corners_14 (by decide) ?_
  refine lv_iadd hx hb dX7_corners_15 ?_
  refine lv_imul hx hb dX7_corners_16 ?_
  exact hE hw (Option.some.inj h) rfl dX7_corners_17
set_option maxHeartbeats 4000000 in
set_option maxRecDepth 100000 in
theorem c_X7_vertical (l : Launch) (K : vK) (ad : Nat → Nat) (hI : adInj 12 ad) (σ : vSt) {r : Int32} (h : f_X7_vertical σ = some r) : MCi l yX7_vertical (wsY yX7_vertical cX7_vertical 1 (some .int)) (rmF 1 0) K 12 ad (cM K ad) [.ref (ad 0)] σ r σ := by
  refine MCi_of (own := RX7) (plainFor_of_name (by decide)) hI rfl (Nat.le_of_ble_eq_true rfl) ?_
  intro p e s m args below meth c A Q hx_E hE H locs ls hw hl
  have hx := hx_E.1; have hb := hx_E.2.1; have hown := hx_E.2.2.2.1; have hts := hx_E.2.2.2.2.1
  replace hl : lv_has ls 1 [(0, .ref (ad 0))] := hl
  unfold f_X7_vertical at h
  refine lv_aload_n hx hb dX7_vertical_0 rfl (lv_at hl 0 rfl) ?_
  refine gM_0_0 hx_E hw fl_X7_7 dX7_vertical_1 ?_
  refine lv_iconst (v := 1) hx hb dX7_vertical_4 (by decide) ?_
  refine acM_1 hx_E hw (by decide) rfl dX7_vertical_5 ?_
  refine lv_iconst (v := 1) hx hb dX7_vertical_6 (by decide) ?_
  refine lv_iadd hx hb dX7_vertical_7 ?_
  refine lv_aload_n hx hb dX7_vertical_8 rfl (lv_at hl 0 rfl) ?_
  refine gM_0_0 hx_E hw fl_X7_7 dX7_vertical_9 ?_
  refine lv_iconst (v := 0) hx hb dX7_vertical_12 (by decide) ?_
  refine acM_1 hx_E hw (by decide) rfl dX7_vertical_13 ?_
  refine lv_imul hx hb dX7_vertical_14 ?_
  exact hE hw (Option.some.inj h) rfl dX7_vertical_15
set_option maxHeartbeats 4000000 in
set_option maxRecDepth 100000 in
theorem c_X7_edges (l : Launch) (K : vK) (ad : Nat → Nat) (hI : adInj 12 ad) (σ : vSt) {r : Int32} (h : f_X7_edges σ = some r) : MCi l yX7_edges (wsY yX7_edges cX7_edges 1 (some .int)) (rmF 2 20) K 12 ad (cM K ad) [.ref (ad 0)] σ r σ := by
  refine MCi_of (own := RX7) (plainFor_of_name (by decide)) hI rfl (Nat.le_of_ble_eq_true rfl) ?_
  intro p e s m args below meth c A Q hx_E hE H locs ls hw hl
  have hx := hx_E.1; have hb := hx_E.2.1; have hown := hx_E.2.2.2.1; have hts := hx_E.2.2.2.2.1
  replace hl : lv_has ls 1 [(0, .ref (ad 0))] := hl
  unfold f_X7_edges at h
  refine lv_aload_n hx hb dX7_edges_0 rfl (lv_at hl 0 rfl) ?_
  obtain ⟨v1, k2, h⟩ := it_b h
  refine kV_i (As := []) (rest := []) (q := 0) hx_E hw (c_X7_vertical l K ad hI   σ k2) mi_X7_vertical mv_X7_vertical ml_X7_48 (by decide) rfl rfl rfl ⟨⟨Nat.le_of_ble_eq_true rfl, Nat.le_of_ble_eq_true rfl⟩, rfl, rfl⟩ ⟨Nat.zero_le _, Nat.zero_le _⟩ hl.1 rfl (Nat.le_of_ble_eq_true rfl) dX7_edges_1 (fun H locs hw => ?_)
  refine lv_aload_n hx hb dX7_edges_4 rfl (lv_at hl 0 rfl) ?_
  refine gM_0_0 hx_E hw fl_X7_7 dX7_edges_5 ?_
  refine lv_iconst (v := 1) hx hb dX7_edges_8 (by decide) ?_
  refine acM_1 hx_E hw (by decide) rfl dX7_edges_9 ?_
  refine lv_aload_n hx hb dX7_edges_10 rfl (lv_at hl 0 rfl) ?_
  refine gM_0_0 hx_E hw fl_X7_7 dX7_edges_11 ?_
  refine lv_iconst (v := 0) hx hb dX7_edges_14 (by decide) ?_
  refine acM_1 hx_E hw (by decide) rfl dX7_edges_15 ?_
  refine lv_iconst (v := 1) hx hb dX7_edges_16 (by decide) ?_
  refine lv_iadd hx hb dX7_edges_17 ?_
  refine lv_imul hx hb dX7_edges_18 ?_
  refine lv_iadd hx hb dX7_edges_19 ?_
  exact hE hw (Option.some.inj h) rfl dX7_edges_20
set_option maxHeartbeats 4000000 in
set_option maxRecDepth 100000 in
theorem c_X7_aroundCell (l : Launch) (K : vK) (ad : Nat → Nat) (hI : adInj 12 ad) (l1 : Int32) (l2 : Int32) (σ : vSt) {r : Int32} (h : f_X7_aroundCell l1 l2 σ = some r) : MCi l yX7_aroundCell (wsY yX7_aroundCell cX7_aroundCell 5 (some .int)) (rmF 2 20) K 12 ad (cM K ad) [.ref (ad 0), .int l1, .int l2] σ r σ := by
  refine MCi_of (own := RX7) (plainFor_of_name (by decide)) hI rfl (Nat.le_of_ble_eq_true rfl) ?_
  intro p e s m args below meth c A Q hx_E hE H locs ls hw hl
  have hx := hx_E.1; have hb := hx_E.2.1; have hown := hx_E.2.2.2.1; have hts := hx_E.2.2.2.2.1
  replace hl : lv_has ls 5 [(0, .ref (ad 0)), (1, .int l1), (2, .int l2)] := hl
  unfold f_X7_aroundCell at h
  refine lv_iload_n hx hb dX7_aroundCell_0 rfl (lv_at hl 1 rfl) ?_
  refine lv_aload_n hx hb dX7_aroundCell_1 rfl (lv_at hl 0 rfl) ?_
  refine gM_0_0 hx_E hw fl_X7_7 dX7_aroundCell_2 ?_
  refine lv_iconst (v := 0) hx hb dX7_aroundCell_5 (by decide) ?_
  refine acM_1 hx_E hw (by decide) rfl dX7_aroundCell_6 ?_
  obtain ⟨g1, h⟩ := it_g h
  refine lv_idiv hx hb dX7_aroundCell_7 g1 ?_
  obtain ⟨v2, e_v2, h⟩ := it_b h
  refine lt_topi (Option.some.inj e_v2) ?_
  refine lv_istore_n (lv' := [(3, .int v2), (0, .ref (ad 0)), (1, .int l1), (2, .int l2)]) hx hb dX7_aroundCell_8 rfl hl (by decide) rfl (fun ls hl => ?_)
  refine lv_iload_n hx hb dX7_aroundCell_9 rfl (lv_at hl 2 rfl) ?_
  refine lv_aload_n hx hb dX7_aroundCell_10 rfl (lv_at hl 1 rfl) ?_
  refine gM_0_0 hx_E hw fl_X7_7 dX7_aroundCell_11 ?_
  refine lv_iconst (v := 0) hx hb dX7_aroundCell_14 (by decide) ?_
  refine acM_1 hx_E hw (by decide) rfl dX7_aroundCell_15 ?_
  obtain ⟨g3, h⟩ := it_g h
  refine lv_irem hx hb dX7_aroundCell_16 g3 ?_
  obtain ⟨v4, e_v4, h⟩ := it_b h
  refine lt_topi (Option.some.inj e_v4) ?_
  refine lv_istore (lv' := [(4, .int v4), (3, .int v2), (0, .ref (ad 0)), (1, .int l1), (2, .int l2)]) hx hb dX7_aroundCell_17 hl (by decide) rfl (fun ls hl => ?_)
  refine lv_iload_n hx hb dX7_aroundCell_19 rfl (lv_at hl 4 rfl) ?_
  refine lv_iconst (v := 2) hx hb dX7_aroundCell_20 (by decide) ?_
  refine lv_icmp_ge (tgt := 40) hx hb dX7_aroundCell_21 (by decide) (fun c5 => ?_) (fun c5 => ?_)
  · replace h := it_t c5 h
    refine lv_aload_n hx hb dX7_aroundCell_40 rfl (lv_at hl 2 rfl) ?_
    obtain ⟨v6, k7, h⟩ := it_b h
    refine kV_i (As := []) (rest := []) (q := 0) hx_E hw (c_X7_vertical l K ad hI   σ k7) mi_X7_vertical mv_X7_vertical ml_X7_48 (by decide) rfl rfl rfl ⟨⟨Nat.le_of_ble_eq_true rfl, Nat.le_of_ble_eq_true rfl⟩, rfl, rfl⟩ ⟨Nat.zero_le _, Nat.zero_le _⟩ hl.1 rfl (Nat.le_of_ble_eq_true rfl) dX7_aroundCell_41 (fun H locs hw => ?_)
    refine lv_iload_n hx hb dX7_aroundCell_44 rfl (lv_at hl 1 rfl) ?_
    refine lv_aload_n hx hb dX7_aroundCell_45 rfl (lv_at hl 2 rfl) ?_
    refine gM_0_0 hx_E hw fl_X7_7 dX7_aroundCell_46 ?_
    refine lv_iconst (v := 0) hx hb dX7_aroundCell_49 (by decide) ?_
    refine acM_1 hx_E hw (by decide) rfl dX7_aroundCell_50 ?_
    refine lv_iconst (v := 1) hx hb dX7_aroundCell_51 (by decide) ?_
    refine lv_iadd hx hb dX7_aroundCell_52 ?_
    refine lv_imul hx hb dX7_aroundCell_53 ?_
    refine lv_iadd hx hb dX7_aroundCell_54 ?_
    refine lv_iload hx hb dX7_aroundCell_55 (lv_at hl 0 rfl) ?_
    refine lv_iadd hx hb dX7_aroundCell_57 ?_
    refine lv_iload_n hx hb dX7_aroundCell_58 rfl (lv_at hl 4 rfl) ?_
    refine lv_iadd hx hb dX7_aroundCell_59 ?_
    refine lv_iconst (v := 2) hx hb dX7_aroundCell_60 (by decide) ?_
    refine lv_isub hx hb dX7_aroundCell_61 ?_
    exact hE hw (Option.some.inj h) rfl dX7_aroundCell_62
  · replace h := it_f c5 h
    refine lv_iload_n hx hb dX7_aroundCell_24 rfl (lv_at hl 1 rfl) ?_
    refine lv_iload_n hx hb dX7_aroundCell_25 rfl (lv_at hl 4 rfl) ?_
    refine lv_iadd hx hb dX7_aroundCell_26 ?_
    refine lv_aload_n hx hb dX7_aroundCell_27 rfl (lv_at hl 2 rfl) ?_
    refine gM_0_0 hx_E hw fl_X7_7 dX7_aroundCell_28 ?_
    refine lv_iconst (v := 0) hx hb dX7_aroundCell_31 (by decide) ?_
    refine acM_1 hx_E hw (by decide) rfl dX7_aroundCell_32 ?_
    refine lv_imul hx hb dX7_aroundCell_33 ?_
    refine lv_iload hx hb dX7_aroundCell_34 (lv_at hl 0 rfl) ?_
    refine lv_iadd hx hb dX7_aroundCell_36 ?_
    refine lv_goto (tgt := 62) hx hb dX7_aroundCell_37 (by decide) ?_
    exact hE hw (Option.some.inj h) rfl dX7_aroundCell_62
set_option maxHeartbeats 4000000 in
set_option maxRecDepth 100000 in
theorem c_X7_toward (l : Launch) (K : vK) (ad : Nat → Nat) (hI : adInj 12 ad) (l1 : Int32) (l2 : Int32) (σ : vSt) {r : Int32} (h : f_X7_toward l1 l2 σ = some r) : MCi l yX7_toward (wsY yX7_toward cX7_toward 5 (some .int)) (rmF 2 20) K 12 ad (cM K ad) [.ref (ad 0), .int l1, .int l2] σ r σ := by
  refine MCi_of (own := RX7) (plainFor_of_name (by decide)) hI rfl (Nat.le_of_ble_eq_true rfl) ?_
  intro p e s m args below meth c A Q hx_E hE H locs ls hw hl
  have hx := hx_E.1; have hb := hx_E.2.1; have hown := hx_E.2.2.2.1; have hts := hx_E.2.2.2.2.1
  replace hl : lv_has ls 5 [(0, .ref (ad 0)), (1, .int l1), (2, .int l2)] := hl
  unfold f_X7_toward at h
  refine lv_iload_n hx hb dX7_toward_0 rfl (lv_at hl 1 rfl) ?_
  refine lv_aload_n hx hb dX7_toward_1 rfl (lv_at hl 0 rfl) ?_
  refine gM_0_0 hx_E hw fl_X7_7 dX7_toward_2 ?_
  refine lv_iconst (v := 0) hx hb dX7_toward_5 (by decide) ?_
  refine acM_1 hx_E hw (by decide) rfl dX7_toward_6 ?_
  refine lv_iconst (v := 1) hx hb dX7_toward_7 (by decide) ?_
  refine lv_iadd hx hb dX7_toward_8 ?_
  obtain ⟨g1, h⟩ := it_g h
  refine lv_idiv hx hb dX7_toward_9 g1 ?_
  obtain ⟨v2, e_v2, h⟩ := it_b h
  refine lt_topi (Option.some.inj e_v2) ?_
  refine lv_istore_n (lv' := [(3, .int v2), (0, .ref (ad 0)), (1, .int l1), (2, .int l2)]) hx hb dX7_toward_10 rfl hl (by decide) rfl (fun ls hl => ?_)
  refine lv_iload_n hx hb dX7_toward_11 rfl (lv_at hl 2 rfl) ?_
  refine lv_aload_n hx hb dX7_toward_12 rfl (lv_at hl 1 rfl) ?_
  refine gM_0_0 hx_E hw fl_X7_7 dX7_toward_13 ?_
  refine lv_iconst (v := 0) hx hb dX7_toward_16 (by decide) ?_
  refine acM_1 hx_E hw (by decide) rfl dX7_toward_17 ?_
  refine lv_iconst (v := 1) hx hb dX7_toward_18 (by decide) ?_
  refine lv_iadd hx hb dX7_toward_19 ?_
  obtain ⟨g3, h⟩ := it_g h
  refine lv_irem hx hb dX7_toward_20 g3 ?_
  obtain ⟨v4, e_v4, h⟩ := it_b h
  refine lt_topi (Option.some.inj e_v4) ?_
  refine lv_istore (lv' := [(4, .int v4), (3, .int v2), (0, .ref (ad 0)), (1, .int l1), (2, .int l2)]) hx hb dX7_toward_21 hl (by decide) rfl (fun ls hl => ?_)
  refine lv_iload_n hx hb dX7_toward_23 rfl (lv_at hl 4 rfl) ?_
  by_cases c13 : l2 = 0
  · replace h := it_t c13 h
    refine lv_tableIn (off := 28) (tgt := 52) hx hb dX7_toward_24 (by rw [c13]; decide) (by rw [c13]; decide) (by rw [c13]; rfl) (by decide) ?_
    refine lv_iload hx hb dX7_toward_52 (lv_at hl 0 rfl) ?_
    refine lv_if_le (tgt := 73) hx hb dX7_toward_54 (by decide) (fun c5 => ?_) (fun c5 => ?_)
    · replace h := it_t c5 h
      refine lv_iconst (v := -1) hx hb dX7_toward_73 (by decide) ?_
      exact hE hw (Option.some.inj h) rfl dX7_toward_74
    · replace h := it_f c5 h
      refine lv_iload_n hx hb dX7_toward_57 rfl (lv_at hl 1 rfl) ?_
      refine lv_aload_n hx hb dX7_toward_58 rfl (lv_at hl 2 rfl) ?_
      refine gM_0_0 hx_E hw fl_X7_7 dX7_toward_59 ?_
      refine lv_iconst (v := 0) hx hb dX7_toward_62 (by decide) ?_
      refine acM_1 hx_E hw (by decide) rfl dX7_toward_63 ?_
      refine lv_imul hx hb dX7_toward_64 ?_
      refine lv_iload hx hb dX7_toward_65 (lv_at hl 0 rfl) ?_
      refine lv_iadd hx hb dX7_toward_67 ?_
      refine lv_iconst (v := 1) hx hb dX7_toward_68 (by decide) ?_
      refine lv_isub hx hb dX7_toward_69 ?_
      refine lv_goto (tgt := 74) hx hb dX7_toward_70 (by decide) ?_
      exact hE hw (Option.some.inj h) rfl dX7_toward_74
  replace h := it_f c13 h
  by_cases c14 : l2 = 1
  · replace h := it_t c14 h
    refine lv_tableIn (off := 51) (tgt := 75) hx hb dX7_toward_24 (by rw [c14]; decide) (by rw [c14]; decide) (by rw [c14]; rfl) (by decide) ?_
    refine lv_iload hx hb dX7_toward_75 (lv_at hl 0 rfl) ?_
    refine lv_aload_n hx hb dX7_toward_77 rfl (lv_at hl 2 rfl) ?_
    refine gM_0_0 hx_E hw fl_X7_7 dX7_toward_78 ?_
    refine lv_iconst (v := 0) hx hb dX7_toward_81 (by decide) ?_
    refine acM_1 hx_E hw (by decide) rfl dX7_toward_82 ?_
    refine lv_icmp_ge (tgt := 100) hx hb dX7_toward_83 (by decide) (fun c6 => ?_) (fun c6 => ?_)
    · replace h := it_t c6 h
      refine lv_iconst (v := -1) hx hb dX7_toward_100 (by decide) ?_
      exact hE hw (Option.some.inj h) rfl dX7_toward_101
    · replace h := it_f c6 h
      refine lv_iload_n hx hb dX7_toward_86 rfl (lv_at hl 1 rfl) ?_
      refine lv_aload_n hx hb dX7_toward_87 rfl (lv_at hl 2 rfl) ?_
      refine gM_0_0 hx_E hw fl_X7_7 dX7_toward_88 ?_
      refine lv_iconst (v := 0) hx hb dX7_toward_91 (by decide) ?_
      refine acM_1 hx_E hw (by decide) rfl dX7_toward_92 ?_
      refine lv_imul hx hb dX7_toward_93 ?_
      refine lv_iload hx hb dX7_toward_94 (lv_at hl 0 rfl) ?_
      refine lv_iadd hx hb dX7_toward_96 ?_
      refine lv_goto (tgt := 101) hx hb dX7_toward_97 (by decide) ?_
      exact hE hw (Option.some.inj h) rfl dX7_toward_101
  replace h := it_f c14 h
  by_cases c15 : l2 = 2
  · replace h := it_t c15 h
    refine lv_tableIn (off := 78) (tgt := 102) hx hb dX7_toward_24 (by rw [c15]; decide) (by rw [c15]; decide) (by rw [c15]; rfl) (by decide) ?_
    refine lv_iload_n hx hb dX7_toward_102 rfl (lv_at hl 1 rfl) ?_
    refine lv_if_le (tgt := 129) hx hb dX7_toward_103 (by decide) (fun c7 => ?_) (fun c7 => ?_)
    · replace h := it_t c7 h
      refine lv_iconst (v := -1) hx hb dX7_toward_129 (by decide) ?_
      exact hE hw (Option.some.inj h) rfl dX7_toward_130
    · replace h := it_f c7 h
      refine lv_aload_n hx hb dX7_toward_106 rfl (lv_at hl 2 rfl) ?_
      obtain ⟨v8, k9, h⟩ := it_b h
      refine kV_i (As := []) (rest := []) (q := 0) hx_E hw (c_X7_vertical l K ad hI   σ k9) mi_X7_vertical mv_X7_vertical ml_X7_48 (by decide) rfl rfl rfl ⟨⟨Nat.le_of_ble_eq_true rfl, Nat.le_of_ble_eq_true rfl⟩, rfl, rfl⟩ ⟨Nat.zero_le _, Nat.zero_le _⟩ hl.1 rfl (Nat.le_of_ble_eq_true rfl) dX7_toward_107 (fun H locs hw => ?_)
      refine lv_iload_n hx hb dX7_toward_110 rfl (lv_at hl 1 rfl) ?_
      refine lv_iconst (v := 1) hx hb dX7_toward_111 (by decide) ?_
      refine lv_isub hx hb dX7_toward_112 ?_
      refine lv_aload_n hx hb dX7_toward_113 rfl (lv_at hl 2 rfl) ?_
      refine gM_0_0 hx_E hw fl_X7_7 dX7_toward_114 ?_
      refine lv_iconst (v := 0) hx hb dX7_toward_117 (by decide) ?_
      refine acM_1 hx_E hw (by decide) rfl dX7_toward_118 ?_
      refine lv_iconst (v := 1) hx hb dX7_toward_119 (by decide) ?_
      refine lv_iadd hx hb dX7_toward_120 ?_
      refine lv_imul hx hb dX7_toward_121 ?_
      refine lv_iadd hx hb dX7_toward_122 ?_
      refine lv_iload hx hb dX7_toward_123 (lv_at hl 0 rfl) ?_
      refine lv_iadd hx hb dX7_toward_125 ?_
      refine lv_goto (tgt := 130) hx hb dX7_toward_126 (by decide) ?_
      exact hE hw (Option.some.inj h) rfl dX7_toward_130
  replace h := it_f c15 h
  refine lv_tableOut (tgt := 131) hx hb dX7_toward_24 (sw_out0_2 c13 c14 c15) (by decide) ?_
  refine lv_iload_n hx hb dX7_toward_131 rfl (lv_at hl 1 rfl) ?_
  refine lv_aload_n hx hb dX7_toward_132 rfl (lv_at hl 2 rfl) ?_
  refine gM_0_0 hx_E hw fl_X7_7 dX7_toward_133 ?_
  refine lv_iconst (v := 1) hx hb dX7_toward_136 (by decide) ?_
  refine acM_1 hx_E hw (by decide) rfl dX7_toward_137 ?_
  refine lv_icmp_ge (tgt := 162) hx hb dX7_toward_138 (by decide) (fun c10 => ?_) (fun c10 => ?_)
  · replace h := it_t c10 h
    refine lv_iconst (v := -1) hx hb dX7_toward_162 (by decide) ?_
    exact hE hw (Option.some.inj h) rfl dX7_toward_163
  · replace h := it_f c10 h
    refine lv_aload_n hx hb dX7_toward_141 rfl (lv_at hl 2 rfl) ?_
    obtain ⟨v11, k12, h⟩ := it_b h
    refine kV_i (As := []) (rest := []) (q := 0) hx_E hw (c_X7_vertical l K ad hI   σ k12) mi_X7_vertical mv_X7_vertical ml_X7_48 (by decide) rfl rfl rfl ⟨⟨Nat.le_of_ble_eq_true rfl, Nat.le_of_ble_eq_true rfl⟩, rfl, rfl⟩ ⟨Nat.zero_le _, Nat.zero_le _⟩ hl.1 rfl (Nat.le_of_ble_eq_true rfl) dX7_toward_142 (fun H locs hw => ?_)
    refine lv_iload_n hx hb dX7_toward_145 rfl (lv_at hl 1 rfl) ?_
    refine lv_aload_n hx hb dX7_toward_146 rfl (lv_at hl 2 rfl) ?_
    refine gM_0_0 hx_E hw fl_X7_7 dX7_toward_147 ?_
    refine lv_iconst (v := 0) hx hb dX7_toward_150 (by decide) ?_
    refine acM_1 hx_E hw (by decide) rfl dX7_toward_151 ?_
    refine lv_iconst (v := 1) hx hb dX7_toward_152 (by decide) ?_
    refine lv_iadd hx hb dX7_toward_153 ?_
    refine lv_imul hx hb dX7_toward_154 ?_
    refine lv_iadd hx hb dX7_toward_155 ?_
    refine lv_iload hx hb dX7_toward_156 (lv_at hl 0 rfl) ?_
    refine lv_iadd hx hb dX7_toward_158 ?_
    refine lv_goto (tgt := 163) hx hb dX7_toward_159 (by decide) ?_
    exact hE hw (Option.some.inj h) rfl dX7_toward_163
set_option maxHeartbeats 4000000 in
set_option maxRecDepth 100000 in
theorem c_X7_end (l : Launch) (K : vK) (ad : Nat → Nat) (hI : adInj 12 ad) (l1 : Int32) (l2 : Int32) (σ : vSt) {r : Int32} (h : f_X7_end l1 l2 σ = some r) : MCi l yX7_end (wsY yX7_end cX7_end 4 (some .int)) (rmF 2 20) K 12 ad (cM K ad) [.ref (ad 0), .int l1, .int l2] σ r σ := by
  refine MCi_of (own := RX7) (plainFor_of_name (by decide)) hI rfl (Nat.le_of_ble_eq_true rfl) ?_
  intro p e s m args below meth c A Q hx_E hE H locs ls hw hl
  have hx := hx_E.1; have hb := hx_E.2.1; have hown := hx_E.2.2.2.1; have hts := hx_E.2.2.2.2.1
  replace hl : lv_has ls 4 [(0, .ref (ad 0)), (1, .int l1), (2, .int l2)] := hl
  unfold f_X7_end at h
  refine lv_aload_n hx hb dX7_end_0 rfl (lv_at hl 0 rfl) ?_
  obtain ⟨v1, k2, h⟩ := it_b h
  refine kV_i (As := []) (rest := []) (q := 0) hx_E hw (c_X7_vertical l K ad hI   σ k2) mi_X7_vertical mv_X7_vertical ml_X7_48 (by decide) rfl rfl rfl ⟨⟨Nat.le_of_ble_eq_true rfl, Nat.le_of_ble_eq_true rfl⟩, rfl, rfl⟩ ⟨Nat.zero_le _, Nat.zero_le _⟩ hl.1 rfl (Nat.le_of_ble_eq_true rfl) dX7_end_1 (fun H locs hw => ?_)
  refine lv_istore_n (lv' := [(3, .int v1), (0, .ref (ad 0)), (1, .int l1), (2, .int l2)]) hx hb dX7_end_4 rfl hl (by decide) rfl (fun ls hl => ?_)
  refine lv_iload_n hx hb dX7_end_5 rfl (lv_at hl 2 rfl) ?_
  refine lv_iload_n hx hb dX7_end_6 rfl (lv_at hl 0 rfl) ?_
  refine lv_icmp_ge (tgt := 47) hx hb dX7_end_7 (by decide) (fun c3 => ?_) (fun c3 => ?_)
  · replace h := it_t c3 h
    refine lv_iload_n hx hb dX7_end_47 rfl (lv_at hl 2 rfl) ?_
    refine lv_iload_n hx hb dX7_end_48 rfl (lv_at hl 0 rfl) ?_
    refine lv_isub hx hb dX7_end_49 ?_
    refine lv_iload_n hx hb dX7_end_50 rfl (lv_at hl 3 rfl) ?_
    refine lv_if_eq (tgt := 65) hx hb dX7_end_51 (by decide) (fun c4 => ?_) (fun c4 => ?_)
    · replace h := it_t c4 h
      refine lv_iconst (v := 0) hx hb dX7_end_65 (by decide) ?_
      refine lv_iadd hx hb dX7_end_66 ?_
      exact hE hw (Option.some.inj h) rfl dX7_end_67
    · replace h := it_f c4 h
      refine lv_aload_n hx hb dX7_end_54 rfl (lv_at hl 1 rfl) ?_
      refine gM_0_0 hx_E hw fl_X7_7 dX7_end_55 ?_
      refine lv_iconst (v := 0) hx hb dX7_end_58 (by decide) ?_
      refine acM_1 hx_E hw (by decide) rfl dX7_end_59 ?_
      refine lv_iconst (v := 1) hx hb dX7_end_60 (by decide) ?_
      refine lv_iadd hx hb dX7_end_61 ?_
      refine lv_goto (tgt := 66) hx hb dX7_end_62 (by decide) ?_
      refine lv_iadd hx hb dX7_end_66 ?_
      exact hE hw (Option.some.inj h) rfl dX7_end_67
  · replace h := it_f c3 h
    refine lv_iload_n hx hb dX7_end_10 rfl (lv_at hl 2 rfl) ?_
    refine lv_aload_n hx hb dX7_end_11 rfl (lv_at hl 1 rfl) ?_
    refine gM_0_0 hx_E hw fl_X7_7 dX7_end_12 ?_
    refine lv_iconst (v := 0) hx hb dX7_end_15 (by decide) ?_
    refine acM_1 hx_E hw (by decide) rfl dX7_end_16 ?_
    obtain ⟨g5, h⟩ := it_g h
    refine lv_idiv hx hb dX7_end_17 g5 ?_
    refine lv_aload_n hx hb dX7_end_18 rfl (lv_at hl 1 rfl) ?_
    refine gM_0_0 hx_E hw fl_X7_7 dX7_end_19 ?_
    refine lv_iconst (v := 0) hx hb dX7_end_22 (by decide) ?_
    refine acM_1 hx_E hw (by decide) rfl dX7_end_23 ?_
    refine lv_iconst (v := 1) hx hb dX7_end_24 (by decide) ?_
    refine lv_iadd hx hb dX7_end_25 ?_
    refine lv_imul hx hb dX7_end_26 ?_
    refine lv_iload_n hx hb dX7_end_27 rfl (lv_at hl 2 rfl) ?_
    refine lv_aload_n hx hb dX7_end_28 rfl (lv_at hl 1 rfl) ?_
    refine gM_0_0 hx_E hw fl_X7_7 dX7_end_29 ?_
    refine lv_iconst (v := 0) hx hb dX7_end_32 (by decide) ?_
    refine acM_1 hx_E hw (by decide) rfl dX7_end_33 ?_
    obtain ⟨g6, h⟩ := it_g h
    refine lv_irem hx hb dX7_end_34 g6 ?_
    refine lv_iadd hx hb dX7_end_35 ?_
    refine lv_iload_n hx hb dX7_end_36 rfl (lv_at hl 3 rfl) ?_
    refine lv_if_eq (tgt := 44) hx hb dX7_end_37 (by decide) (fun c7 => ?_) (fun c7 => ?_)
    · replace h := it_t c7 h
      refine lv_iconst (v := 0) hx hb dX7_end_44 (by decide) ?_
      refine lv_iadd hx hb dX7_end_45 ?_
      exact hE hw (Option.some.inj h) rfl dX7_end_46
    · replace h := it_f c7 h
      refine lv_iconst (v := 1) hx hb dX7_end_40 (by decide) ?_
      refine lv_goto (tgt := 45) hx hb dX7_end_41 (by decide) ?_
      refine lv_iadd hx hb dX7_end_45 ?_
      exact hE hw (Option.some.inj h) rfl dX7_end_46
set_option maxHeartbeats 4000000 in
set_option maxRecDepth 100000 in
theorem c_X7_markOf (l : Launch) (K : vK) (ad : Nat → Nat) (hI : adInj 12 ad) (l1 : Int32) (σ : vSt) {r : Int32} (h : f_X7_markOf l1 σ = some r) : MCi l yX7_markOf (wsY yX7_markOf cX7_markOf 2 (some .int)) (rmF 1 0) K 12 ad (cM K ad) [.ref (ad 0), .int l1] σ r σ := by
  refine MCi_of (own := RX7) (plainFor_of_name (by decide)) hI rfl (Nat.le_of_ble_eq_true rfl) ?_
  intro p e s m args below meth c A Q hx_E hE H locs ls hw hl
  have hx := hx_E.1; have hb := hx_E.2.1; have hown := hx_E.2.2.2.1; have hts := hx_E.2.2.2.2.1
  replace hl : lv_has ls 2 [(0, .ref (ad 0)), (1, .int l1)] := hl
  unfold f_X7_markOf at h
  refine lv_aload_n hx hb dX7_markOf_0 rfl (lv_at hl 0 rfl) ?_
  refine gM_0_0 hx_E hw fl_X7_7 dX7_markOf_1 ?_
  refine lv_bipush (v := 18) hx hb dX7_markOf_4 (by decide) ?_
  refine lv_iload_n hx hb dX7_markOf_6 rfl (lv_at hl 1 rfl) ?_
  refine lv_iadd hx hb dX7_markOf_7 ?_
  obtain ⟨g1, h⟩ := it_g h
  refine aM_1 hx_E hw g1 dX7_markOf_8 ?_
  exact hE hw (Option.some.inj h) rfl dX7_markOf_9
set_option maxHeartbeats 4000000 in
set_option maxRecDepth 100000 in
theorem c_X7_aroundWith (l : Launch) (K : vK) (ad : Nat → Nat) (hI : adInj 12 ad) (l1 : Int32) (l2 : Int32) (σ : vSt) {r : Int32} (h : f_X7_aroundWith l1 l2 σ = some r) : MCi l yX7_aroundWith (wsY yX7_aroundWith cX7_aroundWith 5 (some .int)) (rmF 3 44) K 12 ad (cM K ad) [.ref (ad 0), .int l1, .int l2] σ r σ := by
  refine MCi_of (own := RX7) (plainFor_of_name (by decide)) hI rfl (Nat.le_of_ble_eq_true rfl) ?_
  intro p e s m args below meth c A Q hx_E hE H locs ls hw hl
  have hx := hx_E.1; have hb := hx_E.2.1; have hown := hx_E.2.2.2.1; have hts := hx_E.2.2.2.2.1
  replace hl : lv_has ls 5 [(0, .ref (ad 0)), (1, .int l1), (2, .int l2)] := hl
  unfold f_X7_aroundWith at h
  refine lv_iconst (v := 0) hx hb dX7_aroundWith_0 (by decide) ?_
  refine lv_istore_n (lv' := [(3, .int (0 : Int32)), (0, .ref (ad 0)), (1, .int l1), (2, .int l2)]) hx hb dX7_aroundWith_1 rfl hl (by decide) rfl (fun ls hl => ?_)
  refine lv_iconst (v := 0) hx hb dX7_aroundWith_2 (by decide) ?_
  refine lv_istore (lv' := [(4, .int (0 : Int32)), (3, .int (0 : Int32)), (0, .ref (ad 0)), (1, .int l1), (2, .int l2)]) hx hb dX7_aroundWith_3 hl (by decide) rfl (fun ls hl => ?_)
  obtain ⟨φ6, h9, h_φ6⟩ := it_b h
  have hJ5 : ∀ (v3 : Int32), v3 = φ6 → ∀ (H : Heap) (locs : List Loc) (ls : Array Slot), PW K 12 ad (cM K ad) A s.heap σ H locs → lv_has ls 5 [(3, .int v3)] → W p l e (rmF 3 44) s m args below meth c H locs 0 0 Q (F0 m 40 ls []) := by
    intro v3 e9 H locs ls hw hl
    subst e9
    replace h := h_φ6
    refine lv_iload_n hx hb dX7_aroundWith_40 rfl (lv_at hl 0 rfl) ?_
    exact hE hw (Option.some.inj h) rfl dX7_aroundWith_41
  have hL4 : ∀ (n9 : Nat) (v1 : Int32) (v2 : Int32), ∀ (H : Heap) (locs : List Loc) (ls : Array Slot), f_X7_aroundWith_5 l1 l2 σ n9 v1 v2 = some φ6 → PW K 12 ad (cM K ad) A s.heap σ H locs → lv_has ls 5 [(0, .ref (ad 0)), (1, .int l1), (2, .int l2), (3, .int v1), (4, .int v2)] → W p l e (rmF 3 44) s m args below meth c H locs 0 0 Q (F0 m 5 ls []) := by
    intro n9
    induction n9 with
    | zero => intro v1 v2 H locs ls h hw hl; rw [f_X7_aroundWith_5.eq_1] at h; exact it_n h
    | succ n9 ih =>
      intro v1 v2 H locs ls h hw hl
      rw [f_X7_aroundWith_5.eq_2] at h
      refine lv_iload hx hb dX7_aroundWith_5 (lv_at hl 4 rfl) ?_
      refine lv_iconst (v := 4) hx hb dX7_aroundWith_7 (by decide) ?_
      refine lv_icmp_ge (tgt := 40) hx hb dX7_aroundWith_8 (by decide) (fun c7 => ?_) (fun c7 => ?_)
      · replace h := it_t c7 h
        have e9 := Option.some.inj h
        subst e9
        exact hJ5 _ rfl  H locs ls hw (lv_sub hl [3] rfl)
      · replace h := it_f c7 h
        refine lv_iload_n hx hb dX7_aroundWith_11 rfl (lv_at hl 3 rfl) ?_
        refine lv_aload_n hx hb dX7_aroundWith_12 rfl (lv_at hl 0 rfl) ?_
        refine lv_aload_n hx hb dX7_aroundWith_13 rfl (lv_at hl 0 rfl) ?_
        refine lv_iload_n hx hb dX7_aroundWith_14 rfl (lv_at hl 1 rfl) ?_
        refine lv_iload hx hb dX7_aroundWith_15 (lv_at hl 4 rfl) ?_
        obtain ⟨v8, k9, h⟩ := it_b h
        refine kV_i (As := [.int l1, .int v2]) (rest := [.ref (ad 0), .int v1]) (q := 0) hx_E hw (c_X7_aroundCell l K ad hI  l1 v2 σ k9) mi_X7_aroundCell mv_X7_aroundCell ml_X7_52 (by decide) rfl rfl rfl ⟨⟨Nat.le_of_ble_eq_true rfl, Nat.le_of_ble_eq_true rfl⟩, rfl, rfl⟩ ⟨Nat.zero_le _, Nat.zero_le _⟩ hl.1 rfl (Nat.le_of_ble_eq_true rfl) dX7_aroundWith_17 (fun H locs hw => ?_)
        obtain ⟨v10, k11, h⟩ := it_b h
        refine kV_i (As := [.int v8]) (rest := [.int v1]) (q := 0) hx_E hw (c_X7_markOf l K ad hI  v8 σ k11) mi_X7_markOf mv_X7_markOf ml_X7_56 (by decide) rfl rfl rfl ⟨⟨Nat.le_of_ble_eq_true rfl, Nat.le_of_ble_eq_true rfl⟩, rfl, rfl⟩ ⟨Nat.zero_le _, Nat.zero_le _⟩ hl.1 rfl (Nat.le_of_ble_eq_true rfl) dX7_aroundWith_20 (fun H locs hw => ?_)
        refine lv_iload_n hx hb dX7_aroundWith_23 rfl (lv_at hl 2 rfl) ?_
        obtain ⟨φ15, h9, h_φ15⟩ := it_b h
        have hJ14 : ∀ (v13 : Int32), v13 = φ15 → (v13 = 0 ∨ v13 = 1) → ∀ (H : Heap) (locs : List Loc) (ls : Array Slot), PW K 12 ad (cM K ad) A s.heap σ H locs → lv_has ls 5 [(0, .ref (ad 0)), (1, .int l1), (2, .int l2), (4, .int v2)] → W p l e (rmF 3 44) s m args below meth c H locs 0 0 Q (F0 m 32 ls [.int v13, .int v1]) := by
          intro v13 e9 z_v13 H locs ls hw hl
          subst e9
          replace h := h_φ15
          refine lv_iadd hx hb dX7_aroundWith_32 ?_
          obtain ⟨v16, e_v16, h⟩ := it_b h
          refine lt_topi (Option.some.inj e_v16) ?_
          refine lv_istore_n (lv' := [(3, .int v16), (0, .ref (ad 0)), (1, .int l1), (2, .int l2), (4, .int v2)]) hx hb dX7_aroundWith_33 rfl hl (by decide) rfl (fun ls hl => ?_)
          refine lv_iinc (v := (v2 + 1)) (lv' := [(4, .int (v2 + 1)), (3, .int v16), (0, .ref (ad 0)), (1, .int l1), (2, .int l2)]) hx hb dX7_aroundWith_34 hl (k := 4) rfl rfl (by decide) rfl (fun ls hl => ?_)
          refine lv_goto (tgt := 5) hx hb dX7_aroundWith_37 (by decide) ?_
          exact ih _ _   H locs ls h hw (lv_sub hl [2, 3, 4, 1, 0] rfl)
        replace h := h9
        refine lv_icmp_ne (tgt := 31) hx hb dX7_aroundWith_24 (by decide) (fun c12 => ?_) (fun c12 => ?_)
        · replace h := it_f c12 h
          refine lv_iconst (v := 0) hx hb dX7_aroundWith_31 (by decide) ?_
          have e9 := Option.some.inj h
          subst e9
          exact hJ14 _ rfl (Or.inl rfl) H locs ls hw (lv_sub hl [0, 1, 2, 4] rfl)
        · replace h := it_t c12 h
          refine lv_iconst (v := 1) hx hb dX7_aroundWith_27 (by decide) ?_
          refine lv_goto (tgt := 32) hx hb dX7_aroundWith_28 (by decide) ?_
          have e9 := Option.some.inj h
          subst e9
          exact hJ14 _ rfl (Or.inr rfl) H locs ls hw (lv_sub hl [0, 1, 2, 4] rfl)
  exact hL4 600 _ _  H locs ls h9 hw (lv_sub hl [2, 3, 4, 1, 0] rfl)
set_option maxHeartbeats 4000000 in
set_option maxRecDepth 100000 in
theorem c_X7_atWith (l : Launch) (K : vK) (ad : Nat → Nat) (hI : adInj 12 ad) (l1 : Int32) (l2 : Int32) (σ : vSt) {r : Int32} (h : f_X7_atWith l1 l2 σ = some r) : MCi l yX7_atWith (wsY yX7_atWith cX7_atWith 6 (some .int)) (rmF 3 44) K 12 ad (cM K ad) [.ref (ad 0), .int l1, .int l2] σ r σ := by
  refine MCi_of (own := RX7) (plainFor_of_name (by decide)) hI rfl (Nat.le_of_ble_eq_true rfl) ?_
  intro p e s m args below meth c A Q hx_E hE H locs ls hw hl
  have hx := hx_E.1; have hb := hx_E.2.1; have hown := hx_E.2.2.2.1; have hts := hx_E.2.2.2.2.1
  replace hl : lv_has ls 6 [(0, .ref (ad 0)), (1, .int l1), (2, .int l2)] := hl
  unfold f_X7_atWith at h
  refine lv_iconst (v := 0) hx hb dX7_atWith_0 (by decide) ?_
  refine lv_istore_n (lv' := [(3, .int (0 : Int32)), (0, .ref (ad 0)), (1, .int l1), (2, .int l2)]) hx hb dX7_atWith_1 rfl hl (by decide) rfl (fun ls hl => ?_)
  refine lv_iconst (v := 0) hx hb dX7_atWith_2 (by decide) ?_
  refine lv_istore (lv' := [(4, .int (0 : Int32)), (3, .int (0 : Int32)), (0, .ref (ad 0)), (1, .int l1), (2, .int l2)]) hx hb dX7_atWith_3 hl (by decide) rfl (fun ls hl => ?_)
  obtain ⟨φ6, h9, h_φ6⟩ := it_b h
  have hJ5 : ∀ (v3 : Int32), v3 = φ6 → ∀ (H : Heap) (locs : List Loc) (ls : Array Slot), PW K 12 ad (cM K ad) A s.heap σ H locs → lv_has ls 6 [(3, .int v3)] → W p l e (rmF 3 44) s m args below meth c H locs 0 0 Q (F0 m 50 ls []) := by
    intro v3 e9 H locs ls hw hl
    subst e9
    replace h := h_φ6
    refine lv_iload_n hx hb dX7_atWith_50 rfl (lv_at hl 0 rfl) ?_
    exact hE hw (Option.some.inj h) rfl dX7_atWith_51
  have hL4 : ∀ (n9 : Nat) (v1 : Int32) (v2 : Int32), ∀ (H : Heap) (locs : List Loc) (ls : Array Slot), f_X7_atWith_5 l1 l2 σ n9 v1 v2 = some φ6 → PW K 12 ad (cM K ad) A s.heap σ H locs → lv_has ls 6 [(0, .ref (ad 0)), (1, .int l1), (2, .int l2), (3, .int v1), (4, .int v2)] → W p l e (rmF 3 44) s m args below meth c H locs 0 0 Q (F0 m 5 ls []) := by
    intro n9
    induction n9 with
    | zero => intro v1 v2 H locs ls h hw hl; rw [f_X7_atWith_5.eq_1] at h; exact it_n h
    | succ n9 ih =>
      intro v1 v2 H locs ls h hw hl
      rw [f_X7_atWith_5.eq_2] at h
      refine lv_iload hx hb dX7_atWith_5 (lv_at hl 4 rfl) ?_
      refine lv_iconst (v := 4) hx hb dX7_atWith_7 (by decide) ?_
      refine lv_icmp_ge (tgt := 50) hx hb dX7_atWith_8 (by decide) (fun c7 => ?_) (fun c7 => ?_)
      · replace h := it_t c7 h
        have e9 := Option.some.inj h
        subst e9
        exact hJ5 _ rfl  H locs ls hw (lv_sub hl [3] rfl)
      · replace h := it_f c7 h
        refine lv_aload_n hx hb dX7_atWith_11 rfl (lv_at hl 0 rfl) ?_
        refine lv_iload_n hx hb dX7_atWith_12 rfl (lv_at hl 1 rfl) ?_
        refine lv_iload hx hb dX7_atWith_13 (lv_at hl 4 rfl) ?_
        obtain ⟨v8, k9, h⟩ := it_b h
        refine kV_i (As := [.int l1, .int v2]) (rest := []) (q := 0) hx_E hw (c_X7_toward l K ad hI  l1 v2 σ k9) mi_X7_toward mv_X7_toward ml_X7_60 (by decide) rfl rfl rfl ⟨⟨Nat.le_of_ble_eq_true rfl, Nat.le_of_ble_eq_true rfl⟩, rfl, rfl⟩ ⟨Nat.zero_le _, Nat.zero_le _⟩ hl.1 rfl (Nat.le_of_ble_eq_true rfl) dX7_atWith_15 (fun H locs hw => ?_)
        refine lv_istore (lv' := [(5, .int v8), (0, .ref (ad 0)), (1, .int l1), (2, .int l2), (3, .int v1), (4, .int v2)]) hx hb dX7_atWith_18 hl (by decide) rfl (fun ls hl => ?_)
        refine lv_iload_n hx hb dX7_atWith_20 rfl (lv_at hl 4 rfl) ?_
        refine lv_iload hx hb dX7_atWith_21 (lv_at hl 0 rfl) ?_
        refine lv_iconst (v := -1) hx hb dX7_atWith_23 (by decide) ?_
        obtain ⟨φ13, h9, h_φ13⟩ := it_b h
        have hJ12 : ∀ (v11 : Int32), v11 = φ13 → (v11 = 0 ∨ v11 = 1) → ∀ (H : Heap) (locs : List Loc) (ls : Array Slot), PW K 12 ad (cM K ad) A s.heap σ H locs → lv_has ls 6 [(0, .ref (ad 0)), (1, .int l1), (2, .int l2), (4, .int v2)] → W p l e (rmF 3 44) s m args below meth c H locs 0 0 Q (F0 m 42 ls [.int v11, .int v1]) := by
          intro v11 e9 z_v11 H locs ls hw hl
          subst e9
          replace h := h_φ13
          refine lv_iadd hx hb dX7_atWith_42 ?_
          obtain ⟨v17, e_v17, h⟩ := it_b h
          refine lt_topi (Option.some.inj e_v17) ?_
          refine lv_istore_n (lv' := [(3, .int v17), (0, .ref (ad 0)), (1, .int l1), (2, .int l2), (4, .int v2)]) hx hb dX7_atWith_43 rfl hl (by decide) rfl (fun ls hl => ?_)
          refine lv_iinc (v := (v2 + 1)) (lv' := [(4, .int (v2 + 1)), (3, .int v17), (0, .ref (ad 0)), (1, .int l1), (2, .int l2)]) hx hb dX7_atWith_44 hl (k := 4) rfl rfl (by decide) rfl (fun ls hl => ?_)
          refine lv_goto (tgt := 5) hx hb dX7_atWith_47 (by decide) ?_
          exact ih _ _   H locs ls h hw (lv_sub hl [2, 3, 4, 1, 0] rfl)
        replace h := h9
        refine lv_icmp_eq (tgt := 41) hx hb dX7_atWith_24 (by decide) (fun c10 => ?_) (fun c10 => ?_)
        · replace h := it_t c10 h
          refine lv_iconst (v := 0) hx hb dX7_atWith_41 (by decide) ?_
          have e9 := Option.some.inj h
          subst e9
          exact hJ12 _ rfl (Or.inl rfl) H locs ls hw (lv_sub hl [1, 2, 3, 5] rfl)
        · replace h := it_f c10 h
          refine lv_aload_n hx hb dX7_atWith_27 rfl (lv_at hl 1 rfl) ?_
          refine lv_iload hx hb dX7_atWith_28 (lv_at hl 0 rfl) ?_
          obtain ⟨v14, k15, h⟩ := it_b h
          refine kV_i (As := [.int v8]) (rest := [.int v1]) (q := 0) hx_E hw (c_X7_markOf l K ad hI  v8 σ k15) mi_X7_markOf mv_X7_markOf ml_X7_56 (by decide) rfl rfl rfl ⟨⟨Nat.le_of_ble_eq_true rfl, Nat.le_of_ble_eq_true rfl⟩, rfl, rfl⟩ ⟨Nat.zero_le _, Nat.zero_le _⟩ hl.1 rfl (Nat.le_of_ble_eq_true rfl) dX7_atWith_30 (fun H locs hw => ?_)
          refine lv_iload_n hx hb dX7_atWith_33 rfl (lv_at hl 3 rfl) ?_
          refine lv_icmp_ne (tgt := 41) hx hb dX7_atWith_34 (by decide) (fun c16 => ?_) (fun c16 => ?_)
          · replace h := it_f c16 h
            refine lv_iconst (v := 0) hx hb dX7_atWith_41 (by decide) ?_
            have e9 := Option.some.inj h
            subst e9
            exact hJ12 _ rfl (Or.inl rfl) H locs ls hw (lv_sub hl [1, 2, 3, 5] rfl)
          · replace h := it_t c16 h
            refine lv_iconst (v := 1) hx hb dX7_atWith_37 (by decide) ?_
            refine lv_goto (tgt := 42) hx hb dX7_atWith_38 (by decide) ?_
            have e9 := Option.some.inj h
            subst e9
            exact hJ12 _ rfl (Or.inr rfl) H locs ls hw (lv_sub hl [1, 2, 3, 5] rfl)
  exact hL4 600 _ _  H locs ls h9 hw (lv_sub hl [2, 3, 4, 1, 0] rfl)
set_option maxHeartbeats 4000000 in
set_option maxRecDepth 100000 in
theorem c_X7_openAround (l : Launch) (K : vK) (ad : Nat → Nat) (hI : adInj 12 ad) (l1 : Int32) (σ : vSt) {r : Int32} (h : f_X7_openAround l1 σ = some r) : MCi l yX7_openAround (wsY yX7_openAround cX7_openAround 3 (some .int)) (rmF 3 44) K 12 ad (cM K ad) [.ref (ad 0), .int l1] σ r σ := by
  refine MCi_of (own := RX7) (plainFor_of_name (by decide)) hI rfl (Nat.le_of_ble_eq_true rfl) ?_
  intro p e s m args below meth c A Q hx_E hE H locs ls hw hl
  have hx := hx_E.1; have hb := hx_E.2.1; have hown := hx_E.2.2.2.1; have hts := hx_E.2.2.2.2.1
  replace hl : lv_has ls 3 [(0, .ref (ad 0)), (1, .int l1)] := hl
  unfold f_X7_openAround at h
  refine lv_iconst (v := 0) hx hb dX7_openAround_0 (by decide) ?_
  refine lv_istore_n (lv' := [(2, .int (0 : Int32)), (0, .ref (ad 0)), (1, .int l1)]) hx hb dX7_openAround_1 rfl hl (by decide) rfl (fun ls hl => ?_)
  obtain ⟨φ5, h9, h_φ5⟩ := it_b h
  have hJ4 : ∀ (v2 : Int32), v2 = φ5 → ∀ (H : Heap) (locs : List Loc) (ls : Array Slot), PW K 12 ad (cM K ad) A s.heap σ H locs → lv_has ls 3 [(0, .ref (ad 0)), (1, .int l1), (2, .int v2)] → W p l e (rmF 3 44) s m args below meth c H locs 0 0 Q (F0 m 21 ls []) := by
    intro v2 e9 H locs ls hw hl
    subst e9
    replace h := h_φ5
    refine lv_aload_n hx hb dX7_openAround_21 rfl (lv_at hl 0 rfl) ?_
    refine lv_iload_n hx hb dX7_openAround_22 rfl (lv_at hl 1 rfl) ?_
    refine lv_iload_n hx hb dX7_openAround_23 rfl (lv_at hl 2 rfl) ?_
    obtain ⟨v11, k12, h⟩ := it_b h
    refine kV_i (As := [.int l1, .int v2]) (rest := []) (q := 0) hx_E hw (c_X7_aroundCell l K ad hI  l1 v2 σ k12) mi_X7_aroundCell mv_X7_aroundCell ml_X7_52 (by decide) rfl rfl rfl ⟨⟨Nat.le_of_ble_eq_true rfl, Nat.le_of_ble_eq_true rfl⟩, rfl, rfl⟩ ⟨Nat.zero_le _, Nat.zero_le _⟩ hl.1 rfl (Nat.le_of_ble_eq_true rfl) dX7_openAround_24 (fun H locs hw => ?_)
    exact hE hw (Option.some.inj h) rfl dX7_openAround_27
  have hL3 : ∀ (n9 : Nat) (v1 : Int32), ∀ (H : Heap) (locs : List Loc) (ls : Array Slot), f_X7_openAround_2 l1 σ n9 v1 = some φ5 → PW K 12 ad (cM K ad) A s.heap σ H locs → lv_has ls 3 [(0, .ref (ad 0)), (1, .int l1), (2, .int v1)] → W p l e (rmF 3 44) s m args below meth c H locs 0 0 Q (F0 m 2 ls []) := by
    intro n9
    induction n9 with
    | zero => intro v1 H locs ls h hw hl; rw [f_X7_openAround_2.eq_1] at h; exact it_n h
    | succ n9 ih =>
      intro v1 H locs ls h hw hl
      rw [f_X7_openAround_2.eq_2] at h
      refine lv_aload_n hx hb dX7_openAround_2 rfl (lv_at hl 0 rfl) ?_
      refine lv_aload_n hx hb dX7_openAround_3 rfl (lv_at hl 0 rfl) ?_
      refine lv_iload_n hx hb dX7_openAround_4 rfl (lv_at hl 1 rfl) ?_
      refine lv_iload_n hx hb dX7_openAround_5 rfl (lv_at hl 2 rfl) ?_
      obtain ⟨v6, k7, h⟩ := it_b h
      refine kV_i (As := [.int l1, .int v1]) (rest := [.ref (ad 0)]) (q := 0) hx_E hw (c_X7_aroundCell l K ad hI  l1 v1 σ k7) mi_X7_aroundCell mv_X7_aroundCell ml_X7_52 (by decide) rfl rfl rfl ⟨⟨Nat.le_of_ble_eq_true rfl, Nat.le_of_ble_eq_true rfl⟩, rfl, rfl⟩ ⟨Nat.zero_le _, Nat.zero_le _⟩ hl.1 rfl (Nat.le_of_ble_eq_true rfl) dX7_openAround_6 (fun H locs hw => ?_)
      obtain ⟨v8, k9, h⟩ := it_b h
      refine kV_i (As := [.int v6]) (rest := []) (q := 0) hx_E hw (c_X7_markOf l K ad hI  v6 σ k9) mi_X7_markOf mv_X7_markOf ml_X7_56 (by decide) rfl rfl rfl ⟨⟨Nat.le_of_ble_eq_true rfl, Nat.le_of_ble_eq_true rfl⟩, rfl, rfl⟩ ⟨Nat.zero_le _, Nat.zero_le _⟩ hl.1 rfl (Nat.le_of_ble_eq_true rfl) dX7_openAround_9 (fun H locs hw => ?_)
      refine lv_if_eq (tgt := 21) hx hb dX7_openAround_12 (by decide) (fun c10 => ?_) (fun c10 => ?_)
      · replace h := it_t c10 h
        have e9 := Option.some.inj h
        subst e9
        exact hJ4 _ rfl  H locs ls hw (lv_sub hl [0, 1, 2] rfl)
      · replace h := it_f c10 h
        refine lv_iinc (v := (v1 + 1)) (lv' := [(2, .int (v1 + 1)), (0, .ref (ad 0)), (1, .int l1)]) hx hb dX7_openAround_15 hl (k := 2) rfl rfl (by decide) rfl (fun ls hl => ?_)
        refine lv_goto (tgt := 2) hx hb dX7_openAround_18 (by decide) ?_
        exact ih _   H locs ls h hw (lv_sub hl [1, 2, 0] rfl)
  exact hL3 600 _  H locs ls h9 hw (lv_sub hl [1, 2, 0] rfl)
set_option maxHeartbeats 4000000 in
set_option maxRecDepth 100000 in
theorem c_X7_openAt (l : Launch) (K : vK) (ad : Nat → Nat) (hI : adInj 12 ad) (l1 : Int32) (σ : vSt) {r : Int32} (h : f_X7_openAt l1 σ = some r) : MCi l yX7_openAt (wsY yX7_openAt cX7_openAt 3 (some .int)) (rmF 3 44) K 12 ad (cM K ad) [.ref (ad 0), .int l1] σ r σ := by
  refine MCi_of (own := RX7) (plainFor_of_name (by decide)) hI rfl (Nat.le_of_ble_eq_true rfl) ?_
  intro p e s m args below meth c A Q hx_E hE H locs ls hw hl
  have hx := hx_E.1; have hb := hx_E.2.1; have hown := hx_E.2.2.2.1; have hts := hx_E.2.2.2.2.1
  replace hl : lv_has ls 3 [(0, .ref (ad 0)), (1, .int l1)] := hl
  unfold f_X7_openAt at h
  refine lv_iconst (v := 0) hx hb dX7_openAt_0 (by decide) ?_
  refine lv_istore_n (lv' := [(2, .int (0 : Int32)), (0, .ref (ad 0)), (1, .int l1)]) hx hb dX7_openAt_1 rfl hl (by decide) rfl (fun ls hl => ?_)
  obtain ⟨φ5, h9, h_φ5⟩ := it_b h
  have hJ4 : ∀ (v2 : Int32), v2 = φ5 → ∀ (H : Heap) (locs : List Loc) (ls : Array Slot), PW K 12 ad (cM K ad) A s.heap σ H locs → lv_has ls 3 [(0, .ref (ad 0)), (1, .int l1), (2, .int v2)] → W p l e (rmF 3 44) s m args below meth c H locs 0 0 Q (F0 m 31 ls []) := by
    intro v2 e9 H locs ls hw hl
    subst e9
    replace h := h_φ5
    refine lv_aload_n hx hb dX7_openAt_31 rfl (lv_at hl 0 rfl) ?_
    refine lv_iload_n hx hb dX7_openAt_32 rfl (lv_at hl 1 rfl) ?_
    refine lv_iload_n hx hb dX7_openAt_33 rfl (lv_at hl 2 rfl) ?_
    obtain ⟨v14, k15, h⟩ := it_b h
    refine kV_i (As := [.int l1, .int v2]) (rest := []) (q := 0) hx_E hw (c_X7_toward l K ad hI  l1 v2 σ k15) mi_X7_toward mv_X7_toward ml_X7_60 (by decide) rfl rfl rfl ⟨⟨Nat.le_of_ble_eq_true rfl, Nat.le_of_ble_eq_true rfl⟩, rfl, rfl⟩ ⟨Nat.zero_le _, Nat.zero_le _⟩ hl.1 rfl (Nat.le_of_ble_eq_true rfl) dX7_openAt_34 (fun H locs hw => ?_)
    exact hE hw (Option.some.inj h) rfl dX7_openAt_37
  have hL3 : ∀ (n9 : Nat) (v1 : Int32), ∀ (H : Heap) (locs : List Loc) (ls : Array Slot), f_X7_openAt_2 l1 σ n9 v1 = some φ5 → PW K 12 ad (cM K ad) A s.heap σ H locs → lv_has ls 3 [(0, .ref (ad 0)), (1, .int l1), (2, .int v1)] → W p l e (rmF 3 44) s m args below meth c H locs 0 0 Q (F0 m 2 ls []) := by
    intro n9
    induction n9 with
    | zero => intro v1 H locs ls h hw hl; rw [f_X7_openAt_2.eq_1] at h; exact it_n h
    | succ n9 ih =>
      intro v1 H locs ls h hw hl
      rw [f_X7_openAt_2.eq_2] at h
      refine lv_aload_n hx hb dX7_openAt_2 rfl (lv_at hl 0 rfl) ?_
      refine lv_iload_n hx hb dX7_openAt_3 rfl (lv_at hl 1 rfl) ?_
      refine lv_iload_n hx hb dX7_openAt_4 rfl (lv_at hl 2 rfl) ?_
      obtain ⟨v6, k7, h⟩ := it_b h
      refine kV_i (As := [.int l1, .int v1]) (rest := []) (q := 0) hx_E hw (c_X7_toward l K ad hI  l1 v1 σ k7) mi_X7_toward mv_X7_toward ml_X7_60 (by decide) rfl rfl rfl ⟨⟨Nat.le_of_ble_eq_true rfl, Nat.le_of_ble_eq_true rfl⟩, rfl, rfl⟩ ⟨Nat.zero_le _, Nat.zero_le _⟩ hl.1 rfl (Nat.le_of_ble_eq_true rfl) dX7_openAt_5 (fun H locs hw => ?_)
      refine lv_iconst (v := -1) hx hb dX7_openAt_8 (by decide) ?_
      refine lv_icmp_eq (tgt := 25) hx hb dX7_openAt_9 (by decide) (fun c8 => ?_) (fun c8 => ?_)
      · replace h := it_t c8 h
        refine lv_iinc (v := (v1 + 1)) (lv' := [(2, .int (v1 + 1)), (0, .ref (ad 0)), (1, .int l1)]) hx hb dX7_openAt_25 hl (k := 2) rfl rfl (by decide) rfl (fun ls hl => ?_)
        refine lv_goto (tgt := 2) hx hb dX7_openAt_28 (by decide) ?_
        exact ih _   H locs ls h hw (lv_sub hl [1, 2, 0] rfl)
      · replace h := it_f c8 h
        refine lv_aload_n hx hb dX7_openAt_12 rfl (lv_at hl 0 rfl) ?_
        refine lv_aload_n hx hb dX7_openAt_13 rfl (lv_at hl 0 rfl) ?_
        refine lv_iload_n hx hb dX7_openAt_14 rfl (lv_at hl 1 rfl) ?_
        refine lv_iload_n hx hb dX7_openAt_15 rfl (lv_at hl 2 rfl) ?_
        obtain ⟨v9, k10, h⟩ := it_b h
        refine kV_i (As := [.int l1, .int v1]) (rest := [.ref (ad 0)]) (q := 0) hx_E hw (c_X7_toward l K ad hI  l1 v1 σ k10) mi_X7_toward mv_X7_toward ml_X7_60 (by decide) rfl rfl rfl ⟨⟨Nat.le_of_ble_eq_true rfl, Nat.le_of_ble_eq_true rfl⟩, rfl, rfl⟩ ⟨Nat.zero_le _, Nat.zero_le _⟩ hl.1 rfl (Nat.le_of_ble_eq_true rfl) dX7_openAt_16 (fun H locs hw => ?_)
        obtain ⟨v11, k12, h⟩ := it_b h
        refine kV_i (As := [.int v9]) (rest := []) (q := 0) hx_E hw (c_X7_markOf l K ad hI  v9 σ k12) mi_X7_markOf mv_X7_markOf ml_X7_56 (by decide) rfl rfl rfl ⟨⟨Nat.le_of_ble_eq_true rfl, Nat.le_of_ble_eq_true rfl⟩, rfl, rfl⟩ ⟨Nat.zero_le _, Nat.zero_le _⟩ hl.1 rfl (Nat.le_of_ble_eq_true rfl) dX7_openAt_19 (fun H locs hw => ?_)
        refine lv_if_eq (tgt := 31) hx hb dX7_openAt_22 (by decide) (fun c13 => ?_) (fun c13 => ?_)
        · replace h := it_t c13 h
          have e9 := Option.some.inj h
          subst e9
          exact hJ4 _ rfl  H locs ls hw (lv_sub hl [0, 1, 2] rfl)
        · replace h := it_f c13 h
          refine lv_iinc (v := (v1 + 1)) (lv' := [(2, .int (v1 + 1)), (0, .ref (ad 0)), (1, .int l1)]) hx hb dX7_openAt_25 hl (k := 2) rfl rfl (by decide) rfl (fun ls hl => ?_)
          refine lv_goto (tgt := 2) hx hb dX7_openAt_28 (by decide) ?_
          exact ih _   H locs ls h hw (lv_sub hl [1, 2, 0] rfl)
  exact hL3 600 _  H locs ls h9 hw (lv_sub hl [1, 2, 0] rfl)
set_option maxHeartbeats 4000000 in
set_option maxRecDepth 100000 in
theorem c_X7_top (l : Launch) (K : vK) (ad : Nat → Nat) (hI : adInj 12 ad) (l1 : Int32) (σ : vSt) {r : Int32} (h : f_X7_top l1 σ = some r) : MCi l yX7_top (wsY yX7_top cX7_top 3 (some .int)) (rmF 1 0) K 12 ad (cM K ad) [.ref (ad 0), .int l1] σ r σ := by
  refine MCi_of (own := RX7) (plainFor_of_name (by decide)) hI rfl (Nat.le_of_ble_eq_true rfl) ?_
  intro p e s m args below meth c A Q hx_E hE H locs ls hw hl
  have hx := hx_E.1; have hb := hx_E.2.1; have hown := hx_E.2.2.2.1; have hts := hx_E.2.2.2.2.1
  replace hl : lv_has ls 3 [(0, .ref (ad 0)), (1, .int l1)] := hl
  unfold f_X7_top at h
  refine lv_iload_n hx hb dX7_top_0 rfl (lv_at hl 1 rfl) ?_
  refine lv_istore_n (lv' := [(2, .int l1), (0, .ref (ad 0)), (1, .int l1)]) hx hb dX7_top_1 rfl hl (by decide) rfl (fun ls hl => ?_)
  obtain ⟨φ5, h9, h_φ5⟩ := it_b h
  have hJ4 : ∀ (v2 : Int32), v2 = φ5 → ∀ (H : Heap) (locs : List Loc) (ls : Array Slot), PW K 12 ad (cM K ad) A s.heap σ H locs → lv_has ls 3 [(2, .int v2)] → W p l e (rmF 1 0) s m args below meth c H locs 0 0 Q (F0 m 22 ls []) := by
    intro v2 e9 H locs ls hw hl
    subst e9
    replace h := h_φ5
    refine lv_iload_n hx hb dX7_top_22 rfl (lv_at hl 0 rfl) ?_
    exact hE hw (Option.some.inj h) rfl dX7_top_23
  have hL3 : ∀ (n9 : Nat) (v1 : Int32), ∀ (H : Heap) (locs : List Loc) (ls : Array Slot), f_X7_top_2 σ n9 v1 = some φ5 → PW K 12 ad (cM K ad) A s.heap σ H locs → lv_has ls 3 [(0, .ref (ad 0)), (2, .int v1)] → W p l e (rmF 1 0) s m args below meth c H locs 0 0 Q (F0 m 2 ls []) := by
    intro n9
    induction n9 with
    | zero => intro v1 H locs ls h hw hl; rw [f_X7_top_2.eq_1] at h; exact it_n h
    | succ n9 ih =>
      intro v1 H locs ls h hw hl
      rw [f_X7_top_2.eq_2] at h
      refine lv_aload_n hx hb dX7_top_2 rfl (lv_at hl 0 rfl) ?_
      refine gM_0_5 hx_E hw fl_X7_19 dX7_top_3 ?_
      refine lv_iload_n hx hb dX7_top_6 rfl (lv_at hl 1 rfl) ?_
      obtain ⟨g6, h⟩ := it_g h
      refine aM_4 hx_E hw g6 dX7_top_7 ?_
      refine lv_iload_n hx hb dX7_top_8 rfl (lv_at hl 1 rfl) ?_
      refine lv_icmp_eq (tgt := 22) hx hb dX7_top_9 (by decide) (fun c7 => ?_) (fun c7 => ?_)
      · replace h := it_t c7 h
        have e9 := Option.some.inj h
        subst e9
        exact hJ4 _ rfl  H locs ls hw (lv_sub hl [1] rfl)
      · replace h := it_f c7 h
        refine lv_aload_n hx hb dX7_top_12 rfl (lv_at hl 0 rfl) ?_
        refine gM_0_5 hx_E hw fl_X7_19 dX7_top_13 ?_
        refine lv_iload_n hx hb dX7_top_16 rfl (lv_at hl 1 rfl) ?_
        obtain ⟨g8, h⟩ := it_g h
        refine aM_4 hx_E hw g8 dX7_top_17 ?_
        obtain ⟨v9, e_v9, h⟩ := it_b h
        refine lt_topi (Option.some.inj e_v9) ?_
        refine lv_istore_n (lv' := [(2, .int v9), (0, .ref (ad 0))]) hx hb dX7_top_18 rfl hl (by decide) rfl (fun ls hl => ?_)
        refine lv_goto (tgt := 2) hx hb dX7_top_19 (by decide) ?_
        exact ih _   H locs ls h hw (lv_sub hl [1, 0] rfl)
  exact hL3 600 _  H locs ls h9 hw (lv_sub hl [1, 0] rfl)
