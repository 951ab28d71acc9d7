set_option maxHeartbeats 4000000 in
set_option maxRecDepth 100000 in
theorem c_X7_digest (l : Launch) (K : vK) (ad : Nat → Nat) (hI : adInj 12 ad) (σ : vSt) {r : Int64} {σ' : vSt} (h : f_X7_digest σ = some (r, σ')) : MCl l yX7_digest (wsY yX7_digest cX7_digest 2 (some .long)) (rmF 12 251) K 12 ad (cM K ad) [.ref (ad 0)] σ r σ' := by
  refine MCl_of (own := RX7) (plainFor_of_name (by decide)) hI rfl (Nat.le_of_ble_eq_true rfl) ?_
  intro p e s m args below meth c A Q hx_E hE H locs ls hw hl
  have hx := hx_E.1; have hb := hx_E.2.1; have hown := hx_E.2.2.2.1; have hts := hx_E.2.2.2.2.1
  replace hl : lv_has ls 2 [(0, .ref (ad 0))] := hl
  unfold f_X7_digest at h
  refine lv_aload_n hx hb dX7_digest_0 rfl (lv_at hl 0 rfl) ?_
  refine lv_ldc2 (v := 157) hx hb hown (hts _ kl_X7_233) dX7_digest_1 ?_
  refine pM_0_29 hx_E hw fl_X7_229 dX7_digest_4 (fun H locs hw => ?_)
  refine lv_iconst (v := 0) hx hb dX7_digest_7 (by decide) ?_
  refine lv_istore_n (lv' := [(1, .int (0 : Int32)), (0, .ref (ad 0))]) hx hb dX7_digest_8 rfl hl (by decide) rfl (fun ls hl => ?_)
  obtain ⟨σ1, e_σ1, h⟩ := it_b h
  replace hw := PW_cast (Option.some.inj e_σ1) hw
  obtain ⟨φ7, h9, h_φ7⟩ := it_b h
  have hJ6 : ∀ (σ4 : vSt), σ4 = φ7 → ∀ (H : Heap) (locs : List Loc) (ls : Array Slot), PW K 12 ad (cM K ad) A s.heap σ4 H locs → lv_has ls 2 [(0, .ref (ad 0))] → W p l e (rmF 12 251) s m args below meth c H locs 0 0 Q (F0 m 30 ls []) := by
    intro σ4 e9 H locs ls hw hl
    subst e9
    replace h := h_φ7
    refine lv_iconst (v := 0) hx hb dX7_digest_30 (by decide) ?_
    refine lv_istore_n (lv' := [(1, .int (0 : Int32)), (0, .ref (ad 0))]) hx hb dX7_digest_31 rfl hl (by decide) rfl (fun ls hl => ?_)
    obtain ⟨φ18, h9, h_φ18⟩ := it_b h
    have hJ17 : ∀ (σ15 : vSt), σ15 = φ18 → ∀ (H : Heap) (locs : List Loc) (ls : Array Slot), PW K 12 ad (cM K ad) A s.heap σ15 H locs → lv_has ls 2 [(0, .ref (ad 0))] → W p l e (rmF 12 251) s m args below meth c H locs 0 0 Q (F0 m 58 ls []) := by
      intro σ15 e9 H locs ls hw hl
      subst e9
      replace h := h_φ18
      refine lv_iconst (v := 0) hx hb dX7_digest_58 (by decide) ?_
      refine lv_istore_n (lv' := [(1, .int (0 : Int32)), (0, .ref (ad 0))]) hx hb dX7_digest_59 rfl hl (by decide) rfl (fun ls hl => ?_)
      obtain ⟨φ30, h9, h_φ30⟩ := it_b h
      have hJ29 : ∀ (σ27 : vSt), σ27 = φ30 → ∀ (H : Heap) (locs : List Loc) (ls : Array Slot), PW K 12 ad (cM K ad) A s.heap σ27 H locs → lv_has ls 2 [(0, .ref (ad 0))] → W p l e (rmF 12 251) s m args below meth c H locs 0 0 Q (F0 m 83 ls []) := by
        intro σ27 e9 H locs ls hw hl
        subst e9
        replace h := h_φ30
        refine lv_iconst (v := 0) hx hb dX7_digest_83 (by decide) ?_
        refine lv_istore_n (lv' := [(1, .int (0 : Int32)), (0, .ref (ad 0))]) hx hb dX7_digest_84 rfl hl (by decide) rfl (fun ls hl => ?_)
        obtain ⟨φ43, h9, h_φ43⟩ := it_b h
        have hJ42 : ∀ (σ40 : vSt), σ40 = φ43 → ∀ (H : Heap) (locs : List Loc) (ls : Array Slot), PW K 12 ad (cM K ad) A s.heap σ40 H locs → lv_has ls 2 [(0, .ref (ad 0))] → W p l e (rmF 12 251) s m args below meth c H locs 0 0 Q (F0 m 105 ls []) := by
          intro σ40 e9 H locs ls hw hl
          subst e9
          replace h := h_φ43
          refine lv_iconst (v := 0) hx hb dX7_digest_105 (by decide) ?_
          refine lv_istore_n (lv' := [(1, .int (0 : Int32)), (0, .ref (ad 0))]) hx hb dX7_digest_106 rfl hl (by decide) rfl (fun ls hl => ?_)
          obtain ⟨φ55, h9, h_φ55⟩ := it_b h
          have hJ54 : ∀ (σ52 : vSt), σ52 = φ55 → ∀ (H : Heap) (locs : List Loc) (ls : Array Slot), PW K 12 ad (cM K ad) A s.heap σ52 H locs → lv_has ls 2 [(0, .ref (ad 0))] → W p l e (rmF 12 251) s m args below meth c H locs 0 0 Q (F0 m 127 ls []) := by
            intro σ52 e9 H locs ls hw hl
            subst e9
            replace h := h_φ55
            refine lv_aload_n hx hb dX7_digest_127 rfl (lv_at hl 0 rfl) ?_
            refine lv_aload_n hx hb dX7_digest_128 rfl (lv_at hl 0 rfl) ?_
            refine lv_iconst (v := 2) hx hb dX7_digest_129 (by decide) ?_
            obtain ⟨⟨v62, σ63⟩, k64, h⟩ := it_b h
            refine kV_i (As := [.int (2 : Int32)]) (rest := [.ref (ad 0)]) (q := 0) hx_E hw (c_X7_solutions l K ad hI  (2 : Int32) σ52 k64) mi_X7_solutions mv_X7_solutions ml_X7_247 (by decide) rfl rfl rfl ⟨⟨Nat.le_of_ble_eq_true rfl, Nat.le_of_ble_eq_true rfl⟩, rfl, rfl⟩ ⟨Nat.zero_le _, Nat.zero_le _⟩ hl.1 rfl (Nat.le_of_ble_eq_true rfl) dX7_digest_130 (fun H locs hw => ?_)
            obtain ⟨σ65, k66, h⟩ := it_b h
            refine kV_v (As := [.int v62]) (rest := []) (q := 0) hx_E hw (c_X7_mixes l K ad hI  v62 σ63 k66) mi_X7_mixes mv_X7_mixes ml_X7_238 (by decide) rfl rfl rfl ⟨⟨Nat.le_of_ble_eq_true rfl, Nat.le_of_ble_eq_true rfl⟩, rfl, rfl⟩ ⟨Nat.zero_le _, Nat.zero_le _⟩ hl.1 rfl (Nat.le_of_ble_eq_true rfl) dX7_digest_133 (fun H locs hw => ?_)
            refine lv_aload_n hx hb dX7_digest_136 rfl (lv_at hl 0 rfl) ?_
            refine lv_aload_n hx hb dX7_digest_137 rfl (lv_at hl 0 rfl) ?_
            refine lv_iconst (v := 2) hx hb dX7_digest_138 (by decide) ?_
            obtain ⟨⟨v67, σ68⟩, k69, h⟩ := it_b h
            refine kV_i (As := [.int (2 : Int32)]) (rest := [.ref (ad 0)]) (q := 0) hx_E hw (c_X7_nodes l K ad hI  (2 : Int32) σ65 k69) mi_X7_nodes mv_X7_nodes ml_X7_250 (by decide) rfl rfl rfl ⟨⟨Nat.le_of_ble_eq_true rfl, Nat.le_of_ble_eq_true rfl⟩, rfl, rfl⟩ ⟨Nat.zero_le _, Nat.zero_le _⟩ hl.1 rfl (Nat.le_of_ble_eq_true rfl) dX7_digest_139 (fun H locs hw => ?_)
            obtain ⟨σ70, k71, h⟩ := it_b h
            refine kV_v (As := [.int v67]) (rest := []) (q := 0) hx_E hw (c_X7_mixes l K ad hI  v67 σ68 k71) mi_X7_mixes mv_X7_mixes ml_X7_238 (by decide) rfl rfl rfl ⟨⟨Nat.le_of_ble_eq_true rfl, Nat.le_of_ble_eq_true rfl⟩, rfl, rfl⟩ ⟨Nat.zero_le _, Nat.zero_le _⟩ hl.1 rfl (Nat.le_of_ble_eq_true rfl) dX7_digest_142 (fun H locs hw => ?_)
            refine lv_aload_n hx hb dX7_digest_145 rfl (lv_at hl 0 rfl) ?_
            refine lv_aload_n hx hb dX7_digest_146 rfl (lv_at hl 0 rfl) ?_
            obtain ⟨⟨v72, σ73⟩, k74, h⟩ := it_b h
            refine kV_i (As := []) (rest := [.ref (ad 0)]) (q := 0) hx_E hw (c_X7_grade l K ad hI   σ70 k74) mi_X7_grade mv_X7_grade ml_X7_253 (by decide) rfl rfl rfl ⟨⟨Nat.le_of_ble_eq_true rfl, Nat.le_of_ble_eq_true rfl⟩, rfl, rfl⟩ ⟨Nat.zero_le _, Nat.zero_le _⟩ hl.1 rfl (Nat.le_of_ble_eq_true rfl) dX7_digest_147 (fun H locs hw => ?_)
            obtain ⟨σ75, k76, h⟩ := it_b h
            refine kV_v (As := [.int v72]) (rest := []) (q := 0) hx_E hw (c_X7_mixes l K ad hI  v72 σ73 k76) mi_X7_mixes mv_X7_mixes ml_X7_238 (by decide) rfl rfl rfl ⟨⟨Nat.le_of_ble_eq_true rfl, Nat.le_of_ble_eq_true rfl⟩, rfl, rfl⟩ ⟨Nat.zero_le _, Nat.zero_le _⟩ hl.1 rfl (Nat.le_of_ble_eq_true rfl) dX7_digest_150 (fun H locs hw => ?_)
            refine lv_iconst (v := 0) hx hb dX7_digest_153 (by decide) ?_
            refine lv_istore_n (lv' := [(1, .int (0 : Int32)), (0, .ref (ad 0))]) hx hb dX7_digest_154 rfl hl (by decide) rfl (fun ls hl => ?_)
            obtain ⟨φ82, h9, h_φ82⟩ := it_b h
            have hJ81 : ∀ (σ79 : vSt), σ79 = φ82 → ∀ (H : Heap) (locs : List Loc) (ls : Array Slot), PW K 12 ad (cM K ad) A s.heap σ79 H locs → lv_has ls 2 [(0, .ref (ad 0))] → W p l e (rmF 12 251) s m args below meth c H locs 0 0 Q (F0 m 179 ls []) := by
              intro σ79 e9 H locs ls hw hl
              subst e9
              replace h := h_φ82
              refine lv_aload_n hx hb dX7_digest_179 rfl (lv_at hl 0 rfl) ?_
              refine gM_0_29 hx_E hw fl_X7_229 dX7_digest_180 ?_
              exact hE hw (congrArg Prod.fst (Option.some.inj h)) (congrArg Prod.snd (Option.some.inj h)) dX7_digest_183
            have hL80 : ∀ (n9 : Nat) (v77 : Int32) (σ78 : vSt), ∀ (H : Heap) (locs : List Loc) (ls : Array Slot), f_X7_digest_155  n9 v77 σ78 = some φ82 → PW K 12 ad (cM K ad) A s.heap σ78 H locs → lv_has ls 2 [(0, .ref (ad 0)), (1, .int v77)] → W p l e (rmF 12 251) s m args below meth c H locs 0 0 Q (F0 m 155 ls []) := by
              intro n9
              induction n9 with
              | zero => intro v77 σ78 H locs ls h hw hl; rw [f_X7_digest_155.eq_1] at h; exact it_n h
              | succ n9 ih =>
                intro v77 σ78 H locs ls h hw hl
                rw [f_X7_digest_155.eq_2] at h
                refine lv_iload_n hx hb dX7_digest_155 rfl (lv_at hl 1 rfl) ?_
                refine lv_aload_n hx hb dX7_digest_156 rfl (lv_at hl 0 rfl) ?_
                refine gM_0_4 hx_E hw fl_X7_166 dX7_digest_157 ?_
                refine lv_icmp_ge (tgt := 179) hx hb dX7_digest_160 (by decide) (fun c83 => ?_) (fun c83 => ?_)
                · replace h := it_t c83 h
                  have e9 := Option.some.inj h
                  subst e9
                  exact hJ81 _ rfl  H locs ls hw (lv_sub hl [0] rfl)
                · replace h := it_f c83 h
                  refine lv_aload_n hx hb dX7_digest_163 rfl (lv_at hl 0 rfl) ?_
                  refine lv_aload_n hx hb dX7_digest_164 rfl (lv_at hl 0 rfl) ?_
                  refine gM_0_3 hx_E hw fl_X7_16 dX7_digest_165 ?_
                  refine lv_iload_n hx hb dX7_digest_168 rfl (lv_at hl 1 rfl) ?_
                  obtain ⟨g84, h⟩ := it_g h
                  refine aM_3 hx_E hw g84 dX7_digest_169 ?_
                  obtain ⟨σ85, k86, h⟩ := it_b h
                  refine kV_v (As := [.int (gI σ78 3 v77.toNatClampNeg)]) (rest := []) (q := 0) hx_E hw (c_X7_mixes l K ad hI  (gI σ78 3 v77.toNatClampNeg) σ78 k86) mi_X7_mixes mv_X7_mixes ml_X7_238 (by decide) rfl rfl rfl ⟨⟨Nat.le_of_ble_eq_true rfl, Nat.le_of_ble_eq_true rfl⟩, rfl, rfl⟩ ⟨Nat.zero_le _, Nat.zero_le _⟩ hl.1 rfl (Nat.le_of_ble_eq_true rfl) dX7_digest_170 (fun H locs hw => ?_)
                  refine lv_iinc (v := (v77 + 1)) (lv' := [(1, .int (v77 + 1)), (0, .ref (ad 0))]) hx hb dX7_digest_173 hl (k := 1) rfl rfl (by decide) rfl (fun ls hl => ?_)
                  refine lv_goto (tgt := 155) hx hb dX7_digest_176 (by decide) ?_
                  exact ih _ _  H locs ls h hw (lv_sub hl [1, 0] rfl)
            exact hL80 600 _ _  H locs ls h9 hw (lv_sub hl [1, 0] rfl)
          have hL53 : ∀ (n9 : Nat) (v50 : Int32) (σ51 : vSt), ∀ (H : Heap) (locs : List Loc) (ls : Array Slot), f_X7_digest_107  n9 v50 σ51 = some φ55 → PW K 12 ad (cM K ad) A s.heap σ51 H locs → lv_has ls 2 [(0, .ref (ad 0)), (1, .int v50)] → W p l e (rmF 12 251) s m args below meth c H locs 0 0 Q (F0 m 107 ls []) := by
            intro n9
            induction n9 with
            | zero => intro v50 σ51 H locs ls h hw hl; rw [f_X7_digest_107.eq_1] at h; exact it_n h
            | succ n9 ih =>
              intro v50 σ51 H locs ls h hw hl
              rw [f_X7_digest_107.eq_2] at h
              refine lv_iload_n hx hb dX7_digest_107 rfl (lv_at hl 1 rfl) ?_
              refine lv_iconst (v := 4) hx hb dX7_digest_108 (by decide) ?_
              refine lv_icmp_ge (tgt := 127) hx hb dX7_digest_109 (by decide) (fun c56 => ?_) (fun c56 => ?_)
              · replace h := it_t c56 h
                have e9 := Option.some.inj h
                subst e9
                exact hJ54 _ rfl  H locs ls hw (lv_sub hl [0] rfl)
              · replace h := it_f c56 h
                refine lv_aload_n hx hb dX7_digest_112 rfl (lv_at hl 0 rfl) ?_
                refine lv_aload_n hx hb dX7_digest_113 rfl (lv_at hl 0 rfl) ?_
                refine lv_iload_n hx hb dX7_digest_114 rfl (lv_at hl 1 rfl) ?_
                obtain ⟨⟨v57, σ58⟩, k59, h⟩ := it_b h
                refine kV_i (As := [.int v50]) (rest := [.ref (ad 0)]) (q := 0) hx_E hw (c_X7_hint l K ad hI  v50 σ51 k59) mi_X7_hint mv_X7_hint ml_X7_244 (by decide) rfl rfl rfl ⟨⟨Nat.le_of_ble_eq_true rfl, Nat.le_of_ble_eq_true rfl⟩, rfl, rfl⟩ ⟨Nat.zero_le _, Nat.zero_le _⟩ hl.1 rfl (Nat.le_of_ble_eq_true rfl) dX7_digest_115 (fun H locs hw => ?_)
                obtain ⟨σ60, k61, h⟩ := it_b h
                refine kV_v (As := [.int v57]) (rest := []) (q := 0) hx_E hw (c_X7_mixes l K ad hI  v57 σ58 k61) mi_X7_mixes mv_X7_mixes ml_X7_238 (by decide) rfl rfl rfl ⟨⟨Nat.le_of_ble_eq_true rfl, Nat.le_of_ble_eq_true rfl⟩, rfl, rfl⟩ ⟨Nat.zero_le _, Nat.zero_le _⟩ hl.1 rfl (Nat.le_of_ble_eq_true rfl) dX7_digest_118 (fun H locs hw => ?_)
                refine lv_iinc (v := (v50 + 1)) (lv' := [(1, .int (v50 + 1)), (0, .ref (ad 0))]) hx hb dX7_digest_121 hl (k := 1) rfl rfl (by decide) rfl (fun ls hl => ?_)
                refine lv_goto (tgt := 107) hx hb dX7_digest_124 (by decide) ?_
                exact ih _ _  H locs ls h hw (lv_sub hl [1, 0] rfl)
          exact hL53 600 _ _  H locs ls h9 hw (lv_sub hl [1, 0] rfl)
        have hL41 : ∀ (n9 : Nat) (v38 : Int32) (σ39 : vSt), ∀ (H : Heap) (locs : List Loc) (ls : Array Slot), f_X7_digest_85  n9 v38 σ39 = some φ43 → PW K 12 ad (cM K ad) A s.heap σ39 H locs → lv_has ls 2 [(0, .ref (ad 0)), (1, .int v38)] → W p l e (rmF 12 251) s m args below meth c H locs 0 0 Q (F0 m 85 ls []) := by
          intro n9
          induction n9 with
          | zero => intro v38 σ39 H locs ls h hw hl; rw [f_X7_digest_85.eq_1] at h; exact it_n h
          | succ n9 ih =>
            intro v38 σ39 H locs ls h hw hl
            rw [f_X7_digest_85.eq_2] at h
            refine lv_iload_n hx hb dX7_digest_85 rfl (lv_at hl 1 rfl) ?_
            refine lv_iconst (v := 5) hx hb dX7_digest_86 (by decide) ?_
            refine lv_icmp_ge (tgt := 105) hx hb dX7_digest_87 (by decide) (fun c44 => ?_) (fun c44 => ?_)
            · replace h := it_t c44 h
              have e9 := Option.some.inj h
              subst e9
              exact hJ42 _ rfl  H locs ls hw (lv_sub hl [0] rfl)
            · replace h := it_f c44 h
              refine lv_aload_n hx hb dX7_digest_90 rfl (lv_at hl 0 rfl) ?_
              refine lv_aload_n hx hb dX7_digest_91 rfl (lv_at hl 0 rfl) ?_
              refine lv_iload_n hx hb dX7_digest_92 rfl (lv_at hl 1 rfl) ?_
              obtain ⟨⟨v45, σ46⟩, k47, h⟩ := it_b h
              refine kV_i (As := [.int v38]) (rest := [.ref (ad 0)]) (q := 0) hx_E hw (c_X7_misfit l K ad hI  v38 σ39 k47) mi_X7_misfit mv_X7_misfit ml_X7_241 (by decide) rfl rfl rfl ⟨⟨Nat.le_of_ble_eq_true rfl, Nat.le_of_ble_eq_true rfl⟩, rfl, rfl⟩ ⟨Nat.zero_le _, Nat.zero_le _⟩ hl.1 rfl (Nat.le_of_ble_eq_true rfl) dX7_digest_93 (fun H locs hw => ?_)
              obtain ⟨σ48, k49, h⟩ := it_b h
              refine kV_v (As := [.int v45]) (rest := []) (q := 0) hx_E hw (c_X7_mixes l K ad hI  v45 σ46 k49) mi_X7_mixes mv_X7_mixes ml_X7_238 (by decide) rfl rfl rfl ⟨⟨Nat.le_of_ble_eq_true rfl, Nat.le_of_ble_eq_true rfl⟩, rfl, rfl⟩ ⟨Nat.zero_le _, Nat.zero_le _⟩ hl.1 rfl (Nat.le_of_ble_eq_true rfl) dX7_digest_96 (fun H locs hw => ?_)
              refine lv_iinc (v := (v38 + 1)) (lv' := [(1, .int (v38 + 1)), (0, .ref (ad 0))]) hx hb dX7_digest_99 hl (k := 1) rfl rfl (by decide) rfl (fun ls hl => ?_)
              refine lv_goto (tgt := 85) hx hb dX7_digest_102 (by decide) ?_
              exact ih _ _  H locs ls h hw (lv_sub hl [1, 0] rfl)
        exact hL41 600 _ _  H locs ls h9 hw (lv_sub hl [1, 0] rfl)
      have hL28 : ∀ (n9 : Nat) (v25 : Int32) (σ26 : vSt), ∀ (H : Heap) (locs : List Loc) (ls : Array Slot), f_X7_digest_60  n9 v25 σ26 = some φ30 → PW K 12 ad (cM K ad) A s.heap σ26 H locs → lv_has ls 2 [(0, .ref (ad 0)), (1, .int v25)] → W p l e (rmF 12 251) s m args below meth c H locs 0 0 Q (F0 m 60 ls []) := by
        intro n9
        induction n9 with
        | zero => intro v25 σ26 H locs ls h hw hl; rw [f_X7_digest_60.eq_1] at h; exact it_n h
        | succ n9 ih =>
          intro v25 σ26 H locs ls h hw hl
          rw [f_X7_digest_60.eq_2] at h
          refine lv_iload_n hx hb dX7_digest_60 rfl (lv_at hl 1 rfl) ?_
          refine lv_aload_n hx hb dX7_digest_61 rfl (lv_at hl 0 rfl) ?_
          obtain ⟨v31, k32, h⟩ := it_b h
          refine kV_i (As := []) (rest := [.int v25]) (q := 0) hx_E hw (c_X7_edges l K ad hI   σ26 k32) mi_X7_edges mv_X7_edges ml_X7_69 (by decide) rfl rfl rfl ⟨⟨Nat.le_of_ble_eq_true rfl, Nat.le_of_ble_eq_true rfl⟩, rfl, rfl⟩ ⟨Nat.zero_le _, Nat.zero_le _⟩ hl.1 rfl (Nat.le_of_ble_eq_true rfl) dX7_digest_62 (fun H locs hw => ?_)
          refine lv_icmp_ge (tgt := 83) hx hb dX7_digest_65 (by decide) (fun c33 => ?_) (fun c33 => ?_)
          · replace h := it_t c33 h
            have e9 := Option.some.inj h
            subst e9
            exact hJ29 _ rfl  H locs ls hw (lv_sub hl [0] rfl)
          · replace h := it_f c33 h
            refine lv_aload_n hx hb dX7_digest_68 rfl (lv_at hl 0 rfl) ?_
            refine lv_aload_n hx hb dX7_digest_69 rfl (lv_at hl 0 rfl) ?_
            refine lv_iload_n hx hb dX7_digest_70 rfl (lv_at hl 1 rfl) ?_
            obtain ⟨v34, k35, h⟩ := it_b h
            refine kV_i (As := [.int v25]) (rest := [.ref (ad 0)]) (q := 0) hx_E hw (c_X7_markOf l K ad hI  v25 σ26 k35) mi_X7_markOf mv_X7_markOf ml_X7_56 (by decide) rfl rfl rfl ⟨⟨Nat.le_of_ble_eq_true rfl, Nat.le_of_ble_eq_true rfl⟩, rfl, rfl⟩ ⟨Nat.zero_le _, Nat.zero_le _⟩ hl.1 rfl (Nat.le_of_ble_eq_true rfl) dX7_digest_71 (fun H locs hw => ?_)
            obtain ⟨σ36, k37, h⟩ := it_b h
            refine kV_v (As := [.int v34]) (rest := []) (q := 0) hx_E hw (c_X7_mixes l K ad hI  v34 σ26 k37) mi_X7_mixes mv_X7_mixes ml_X7_238 (by decide) rfl rfl rfl ⟨⟨Nat.le_of_ble_eq_true rfl, Nat.le_of_ble_eq_true rfl⟩, rfl, rfl⟩ ⟨Nat.zero_le _, Nat.zero_le _⟩ hl.1 rfl (Nat.le_of_ble_eq_true rfl) dX7_digest_74 (fun H locs hw => ?_)
            refine lv_iinc (v := (v25 + 1)) (lv' := [(1, .int (v25 + 1)), (0, .ref (ad 0))]) hx hb dX7_digest_77 hl (k := 1) rfl rfl (by decide) rfl (fun ls hl => ?_)
            refine lv_goto (tgt := 60) hx hb dX7_digest_80 (by decide) ?_
            exact ih _ _  H locs ls h hw (lv_sub hl [1, 0] rfl)
      exact hL28 600 _ _  H locs ls h9 hw (lv_sub hl [1, 0] rfl)
    have hL16 : ∀ (n9 : Nat) (v13 : Int32) (σ14 : vSt), ∀ (H : Heap) (locs : List Loc) (ls : Array Slot), f_X7_digest_32  n9 v13 σ14 = some φ18 → PW K 12 ad (cM K ad) A s.heap σ14 H locs → lv_has ls 2 [(0, .ref (ad 0)), (1, .int v13)] → W p l e (rmF 12 251) s m args below meth c H locs 0 0 Q (F0 m 32 ls []) := by
      intro n9
      induction n9 with
      | zero => intro v13 σ14 H locs ls h hw hl; rw [f_X7_digest_32.eq_1] at h; exact it_n h
      | succ n9 ih =>
        intro v13 σ14 H locs ls h hw hl
        rw [f_X7_digest_32.eq_2] at h
        refine lv_iload_n hx hb dX7_digest_32 rfl (lv_at hl 1 rfl) ?_
        refine lv_aload_n hx hb dX7_digest_33 rfl (lv_at hl 0 rfl) ?_
        obtain ⟨v19, k20, h⟩ := it_b h
        refine kV_i (As := []) (rest := [.int v13]) (q := 0) hx_E hw (c_X7_cells l K ad hI   σ14 k20) mi_X7_cells mv_X7_cells ml_X7_82 (by decide) rfl rfl rfl ⟨⟨Nat.le_of_ble_eq_true rfl, Nat.le_of_ble_eq_true rfl⟩, rfl, rfl⟩ ⟨Nat.zero_le _, Nat.zero_le _⟩ hl.1 rfl (Nat.le_of_ble_eq_true rfl) dX7_digest_34 (fun H locs hw => ?_)
        refine lv_icmp_ge (tgt := 58) hx hb dX7_digest_37 (by decide) (fun c21 => ?_) (fun c21 => ?_)
        · replace h := it_t c21 h
          have e9 := Option.some.inj h
          subst e9
          exact hJ17 _ rfl  H locs ls hw (lv_sub hl [0] rfl)
        · replace h := it_f c21 h
          refine lv_aload_n hx hb dX7_digest_40 rfl (lv_at hl 0 rfl) ?_
          refine lv_aload_n hx hb dX7_digest_41 rfl (lv_at hl 0 rfl) ?_
          refine gM_0_0 hx_E hw fl_X7_7 dX7_digest_42 ?_
          refine lv_iconst (v := 2) hx hb dX7_digest_45 (by decide) ?_
          refine lv_iload_n hx hb dX7_digest_46 rfl (lv_at hl 1 rfl) ?_
          refine lv_iadd hx hb dX7_digest_47 ?_
          obtain ⟨g22, h⟩ := it_g h
          refine aM_1 hx_E hw g22 dX7_digest_48 ?_
          obtain ⟨σ23, k24, h⟩ := it_b h
          refine kV_v (As := [.int (gI σ14 1 ((2 : Int32) + v13).toNatClampNeg)]) (rest := []) (q := 0) hx_E hw (c_X7_mixes l K ad hI  (gI σ14 1 ((2 : Int32) + v13).toNatClampNeg) σ14 k24) mi_X7_mixes mv_X7_mixes ml_X7_238 (by decide) rfl rfl rfl ⟨⟨Nat.le_of_ble_eq_true rfl, Nat.le_of_ble_eq_true rfl⟩, rfl, rfl⟩ ⟨Nat.zero_le _, Nat.zero_le _⟩ hl.1 rfl (Nat.le_of_ble_eq_true rfl) dX7_digest_49 (fun H locs hw => ?_)
          refine lv_iinc (v := (v13 + 1)) (lv' := [(1, .int (v13 + 1)), (0, .ref (ad 0))]) hx hb dX7_digest_52 hl (k := 1) rfl rfl (by decide) rfl (fun ls hl => ?_)
          refine lv_goto (tgt := 32) hx hb dX7_digest_55 (by decide) ?_
          exact ih _ _  H locs ls h hw (lv_sub hl [1, 0] rfl)
    exact hL16 600 _ _  H locs ls h9 hw (lv_sub hl [1, 0] rfl)
  have hL5 : ∀ (n9 : Nat) (v2 : Int32) (σ3 : vSt), ∀ (H : Heap) (locs : List Loc) (ls : Array Slot), f_X7_digest_9  n9 v2 σ3 = some φ7 → PW K 12 ad (cM K ad) A s.heap σ3 H locs → lv_has ls 2 [(0, .ref (ad 0)), (1, .int v2)] → W p l e (rmF 12 251) s m args below meth c H locs 0 0 Q (F0 m 9 ls []) := by
    intro n9
    induction n9 with
    | zero => intro v2 σ3 H locs ls h hw hl; rw [f_X7_digest_9.eq_1] at h; exact it_n h
    | succ n9 ih =>
      intro v2 σ3 H locs ls h hw hl
      rw [f_X7_digest_9.eq_2] at h
      refine lv_iload_n hx hb dX7_digest_9 rfl (lv_at hl 1 rfl) ?_
      refine lv_bipush (v := 16) hx hb dX7_digest_10 (by decide) ?_
      refine lv_icmp_ge (tgt := 30) hx hb dX7_digest_12 (by decide) (fun c8 => ?_) (fun c8 => ?_)
      · replace h := it_t c8 h
        have e9 := Option.some.inj h
        subst e9
        exact hJ6 _ rfl  H locs ls hw (lv_sub hl [0] rfl)
      · replace h := it_f c8 h
        refine lv_aload_n hx hb dX7_digest_15 rfl (lv_at hl 0 rfl) ?_
        refine lv_aload_n hx hb dX7_digest_16 rfl (lv_at hl 0 rfl) ?_
        refine lv_iload_n hx hb dX7_digest_17 rfl (lv_at hl 1 rfl) ?_
        obtain ⟨v9, k10, h⟩ := it_b h
        refine kV_i (As := [.int v2]) (rest := [.ref (ad 0)]) (q := 0) hx_E hw (c_X7_count l K ad hI  v2 σ3 k10) mi_X7_count mv_X7_count ml_X7_235 (by decide) rfl rfl rfl ⟨⟨Nat.le_of_ble_eq_true rfl, Nat.le_of_ble_eq_true rfl⟩, rfl, rfl⟩ ⟨Nat.zero_le _, Nat.zero_le _⟩ hl.1 rfl (Nat.le_of_ble_eq_true rfl) dX7_digest_18 (fun H locs hw => ?_)
        obtain ⟨σ11, k12, h⟩ := it_b h
        refine kV_v (As := [.int v9]) (rest := []) (q := 0) hx_E hw (c_X7_mixes l K ad hI  v9 σ3 k12) mi_X7_mixes mv_X7_mixes ml_X7_238 (by decide) rfl rfl rfl ⟨⟨Nat.le_of_ble_eq_true rfl, Nat.le_of_ble_eq_true rfl⟩, rfl, rfl⟩ ⟨Nat.zero_le _, Nat.zero_le _⟩ hl.1 rfl (Nat.le_of_ble_eq_true rfl) dX7_digest_21 (fun H locs hw => ?_)
        refine lv_iinc (v := (v2 + 1)) (lv' := [(1, .int (v2 + 1)), (0, .ref (ad 0))]) hx hb dX7_digest_24 hl (k := 1) rfl rfl (by decide) rfl (fun ls hl => ?_)
        refine lv_goto (tgt := 9) hx hb dX7_digest_27 (by decide) ?_
        exact ih _ _  H locs ls h hw (lv_sub hl [1, 0] rfl)
  exact hL5 600 _ _  H locs ls h9 hw (lv_sub hl [1, 0] rfl)
