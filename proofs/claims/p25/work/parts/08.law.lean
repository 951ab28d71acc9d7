theorem sw_out0_5 {x : Int32} (h0 : ¬ x = 0) (h1 : ¬ x = 1) (h2 : ¬ x = 2) (h3 : ¬ x = 3) (h4 : ¬ x = 4) (h5 : ¬ x = 5) : x.toInt < 0 ∨ 5 < x.toInt := by
  have g0 : x.toInt ≠ 0 := sw_ne (y := 0) (by decide) h0
  have g1 : x.toInt ≠ 1 := sw_ne (y := 1) (by decide) h1
  have g2 : x.toInt ≠ 2 := sw_ne (y := 2) (by decide) h2
  have g3 : x.toInt ≠ 3 := sw_ne (y := 3) (by decide) h3
  have g4 : x.toInt ≠ 4 := sw_ne (y := 4) (by decide) h4
  have g5 : x.toInt ≠ 5 := sw_ne (y := 5) (by decide) h5
  omega
set_option maxHeartbeats 8000000 in
set_option maxRecDepth 100000 in
theorem c_L_areWaysT {l : Launch} {K : vK} {ad : Nat → Nat} {p : Program} {e : Env} {s : State} {m : MethodId} {args : Array Value} {below : List Frame} {meth : Method} {c : Code} {A : Nat → Prop} {Q : State → Prop} {σ : vSt} {r : Int32} {σ' : vSt} (hI : adInj 32 ad) (hx_E : EC p s m args c cL_areWays 8 gtbl RL K 32 ad (cC K ad) A) (hE : ∀ {H : Heap} {locs : List Loc} {pc : Nat} {ls : Array Slot} {v : Int32} {σ1 : vSt}, PW K 32 ad (cC K ad) A s.heap σ1 H locs → v = r → σ1 = σ' → (v = 0 ∨ v = 1) → decode cL_areWays pc = .ok (.ireturn, 1) → W p l e ({ frames := 7, cells := 1, slots := 40, locals := 140 } : Room) s m args below meth c H locs 1 40 Q (F0 m pc ls [.int v])) (H : Heap) (locs : List Loc) (ls : Array Slot) (hw : PW K 32 ad (cC K ad) A s.heap σ H locs) (hl : lv_has ls 8 [(2, .ref (ad 31)), (0, .ref (ad 8)), (1, .ref (ad 30))]) (h : f_L_areWaysT σ = some (r, σ')) : W p l e ({ frames := 7, cells := 1, slots := 40, locals := 140 } : Room) s m args below meth c H locs 1 40 Q (F0 m 5 ls []) := by
  have hx := hx_E.1; have hb := hx_E.2.1; have hown := hx_E.2.2.2.1; have hts := hx_E.2.2.2.2.1
  have h30 : 30 ≤ 32 := by decide
  have hI30 : adInj 30 ad := adInj_le h30 hI
  unfold f_L_areWaysT at h
  refine lv_aload_n hx hb dL_areWays_5 rfl (lv_at hl 2 rfl) ?_
  refine lv_aload_n hx hb dL_areWays_6 rfl (lv_at hl 0 rfl) ?_
  obtain ⟨σ1, k2, h⟩ := it_b h
  refine kT_v (As := [.ref (ad 30), .ref (ad 31)]) (rest := []) hx_E hw (c_L_joins l K 32 (Nat.le_refl 32) ad hI  σ k2) mi_L_joins sm_L_joins ml_L_94 rfl ⟨⟨Nat.le_of_ble_eq_true rfl, Nat.le_of_ble_eq_true rfl⟩, rfl, rfl⟩ ⟨Nat.le_of_ble_eq_true rfl, Nat.le_of_ble_eq_true rfl⟩ hl.1 rfl (Nat.le_of_ble_eq_true rfl) dL_areWays_7 (fun H locs hw => ?_)
  refine lv_iconst (v := 0) hx hb dL_areWays_10 (by decide) ?_
  refine lv_istore_n (lv' := [(3, .int (0 : Int32)), (2, .ref (ad 31)), (0, .ref (ad 8)), (1, .ref (ad 30))]) hx hb dL_areWays_11 rfl hl (by decide) rfl (fun ls hl => ?_)
  obtain ⟨φ6, h9, h_φ6⟩ := it_b h
  have hJ5 : ∀ (_u : Unit), .inr () = φ6 → ∀ (H : Heap) (locs : List Loc) (ls : Array Slot), PW K 32 ad (cC K ad) A s.heap σ1 H locs → lv_has ls 8 [(0, .ref (ad 8)), (1, .ref (ad 30)), (2, .ref (ad 31))] → W p l e ({ frames := 7, cells := 1, slots := 40, locals := 140 } : Room) s m args below meth c H locs 1 40 Q (F0 m 113 ls []) := by
    intro _u e9 H locs ls hw hl
    subst e9
    replace h := h_φ6
    refine lv_aload_n hx hb dL_areWays_113 rfl (lv_at hl 1 rfl) ?_
    refine lv_aload_n hx hb dL_areWays_114 rfl (lv_at hl 2 rfl) ?_
    obtain ⟨v41, k42, h⟩ := it_b h
    refine kT_i (As := [.ref (ad 30), .ref (ad 31)]) (rest := []) hx_E hw (c_L_firstRing l K 32 (Nat.le_refl 32) ad hI  σ1 k42) mi_L_firstRing sm_L_firstRing ml_L_101 rfl ⟨⟨Nat.le_of_ble_eq_true rfl, Nat.le_of_ble_eq_true rfl⟩, rfl, rfl⟩ ⟨Nat.le_of_ble_eq_true rfl, Nat.le_of_ble_eq_true rfl⟩ hl.1 rfl (Nat.le_of_ble_eq_true rfl) dL_areWays_115 (fun H locs hw => ?_)
    refine lv_istore_n (lv' := [(3, .int v41), (0, .ref (ad 8)), (1, .ref (ad 30)), (2, .ref (ad 31))]) hx hb dL_areWays_118 rfl hl (by decide) rfl (fun ls hl => ?_)
    refine lv_aload_n hx hb dL_areWays_119 rfl (lv_at hl 2 rfl) ?_
    obtain ⟨v43, k44, h⟩ := it_b h
    refine kT_i (As := [.ref (ad 30)]) (rest := []) hx_E hw (c_L_firstCell l K 32 (Nat.le_of_succ_le (Nat.le_refl 32)) ad hI  σ1 k44) mi_L_firstCell sm_L_firstCell ml_L_105 rfl ⟨⟨Nat.le_of_ble_eq_true rfl, Nat.le_of_ble_eq_true rfl⟩, rfl, rfl⟩ ⟨Nat.le_of_ble_eq_true rfl, Nat.le_of_ble_eq_true rfl⟩ hl.1 rfl (Nat.le_of_ble_eq_true rfl) dL_areWays_120 (fun H locs hw => ?_)
    refine lv_istore (lv' := [(4, .int v43), (3, .int v41), (0, .ref (ad 8)), (1, .ref (ad 30)), (2, .ref (ad 31))]) hx hb dL_areWays_123 hl (by decide) rfl (fun ls hl => ?_)
    refine lv_aload_n hx hb dL_areWays_125 rfl (lv_at hl 3 rfl) ?_
    obtain ⟨v45, k46, h⟩ := it_b h
    refine kT_i (As := [.ref (ad 30)]) (rest := []) hx_E hw (c_L_firstCorner l K 32 (Nat.le_of_succ_le (Nat.le_refl 32)) ad hI  σ1 k46) mi_L_firstCorner sm_L_firstCorner ml_L_108 rfl ⟨⟨Nat.le_of_ble_eq_true rfl, Nat.le_of_ble_eq_true rfl⟩, rfl, rfl⟩ ⟨Nat.le_of_ble_eq_true rfl, Nat.le_of_ble_eq_true rfl⟩ hl.1 rfl (Nat.le_of_ble_eq_true rfl) dL_areWays_126 (fun H locs hw => ?_)
    refine lv_istore (lv' := [(5, .int v45), (4, .int v43), (3, .int v41), (0, .ref (ad 8)), (1, .ref (ad 30)), (2, .ref (ad 31))]) hx hb dL_areWays_129 hl (by decide) rfl (fun ls hl => ?_)
    refine lv_iload hx hb dL_areWays_131 (lv_at hl 1 rfl) ?_
    obtain ⟨φ50, h9, h_φ50⟩ := it_b h
    have hJ49 : ∀ (v48 : Int32), v48 = φ50 → (v48 = 0 ∨ v48 = 1) → ∀ (H : Heap) (locs : List Loc) (ls : Array Slot), PW K 32 ad (cC K ad) A s.heap σ1 H locs → lv_has ls 8 [(0, .ref (ad 8)), (1, .ref (ad 30)), (3, .int v41), (4, .int v43), (5, .int v45)] → W p l e ({ frames := 7, cells := 1, slots := 40, locals := 140 } : Room) s m args below meth c H locs 1 40 Q (F0 m 150 ls [.int v48]) := by
      intro v48 e9 z_v48 H locs ls hw hl
      subst e9
      replace h := h_φ50
      refine lv_istore (lv' := [(6, .int v48), (0, .ref (ad 8)), (1, .ref (ad 30)), (3, .int v41), (4, .int v43), (5, .int v45)]) hx hb dL_areWays_150 hl (by decide) rfl (fun ls hl => ?_)
      refine lv_aload_n hx hb dL_areWays_152 rfl (lv_at hl 1 rfl) ?_
      refine lv_iconst (v := 0) hx hb dL_areWays_153 (by decide) ?_
      obtain ⟨v53, k54, h⟩ := it_b h
      refine kUr_i (As := [.int (0 : Int32)]) (rest := []) (q := 8) hx_E h30 hI hw (c_X6_misfit l K ad hI30 (0 : Int32) σ1 k54) mi_X6_misfit mv_X6_misfit ml_L_111 (by decide) rfl rfl rfl ⟨⟨Nat.le_of_ble_eq_true rfl, Nat.le_of_ble_eq_true rfl⟩, rfl, rfl⟩ ⟨Nat.le_of_ble_eq_true rfl, Nat.le_of_ble_eq_true rfl⟩ hl.1 rfl (Nat.le_of_ble_eq_true rfl) dL_areWays_154 (fun H locs hw => ?_)
      refine lv_iload hx hb dL_areWays_157 (lv_at hl 4 rfl) ?_
      obtain ⟨φ58, h9, h_φ58⟩ := it_b h
      have hJ57 : ∀ (v56 : Int32), v56 = φ58 → (v56 = 0 ∨ v56 = 1) → ∀ (H : Heap) (locs : List Loc) (ls : Array Slot), PW K 32 ad (cC K ad) A s.heap σ1 H locs → lv_has ls 8 [(0, .ref (ad 8)), (1, .ref (ad 30))] → W p l e ({ frames := 7, cells := 1, slots := 40, locals := 140 } : Room) s m args below meth c H locs 1 40 Q (F0 m 235 ls [.int v56]) := by
        intro v56 e9 z_v56 H locs ls hw hl
        subst e9
        replace h := h_φ58
        refine lv_istore (lv' := [(7, .int v56), (0, .ref (ad 8)), (1, .ref (ad 30))]) hx hb dL_areWays_235 hl (by decide) rfl (fun ls hl => ?_)
        refine lv_iload hx hb dL_areWays_237 (lv_at hl 0 rfl) ?_
        refine lv_if_eq (tgt := 281) hx hb dL_areWays_239 (by decide) (fun c84 => ?_) (fun c84 => ?_)
        · replace h := it_t c84 h
          refine lv_iconst (v := 0) hx hb dL_areWays_281 (by decide) ?_
          exact hE hw (congrArg Prod.fst (Option.some.inj h)) (congrArg Prod.snd (Option.some.inj h)) (Or.inl rfl) dL_areWays_282
        · replace h := it_f c84 h
          refine lv_aload_n hx hb dL_areWays_242 rfl (lv_at hl 1 rfl) ?_
          refine lv_iconst (v := 5) hx hb dL_areWays_243 (by decide) ?_
          obtain ⟨v85, k86, h⟩ := it_b h
          refine kUr_i (As := [.int (5 : Int32)]) (rest := []) (q := 8) hx_E h30 hI hw (c_X6_misfit l K ad hI30 (5 : Int32) σ1 k86) mi_X6_misfit mv_X6_misfit ml_L_111 (by decide) rfl rfl rfl ⟨⟨Nat.le_of_ble_eq_true rfl, Nat.le_of_ble_eq_true rfl⟩, rfl, rfl⟩ ⟨Nat.le_of_ble_eq_true rfl, Nat.le_of_ble_eq_true rfl⟩ hl.1 rfl (Nat.le_of_ble_eq_true rfl) dL_areWays_244 (fun H locs hw => ?_)
          refine lv_bipush (v := -2) hx hb dL_areWays_247 (by decide) ?_
          refine lv_icmp_ne (tgt := 281) hx hb dL_areWays_249 (by decide) (fun c87 => ?_) (fun c87 => ?_)
          · replace h := it_f c87 h
            refine lv_iconst (v := 0) hx hb dL_areWays_281 (by decide) ?_
            exact hE hw (congrArg Prod.fst (Option.some.inj h)) (congrArg Prod.snd (Option.some.inj h)) (Or.inl rfl) dL_areWays_282
          · replace h := it_t c87 h
            refine lv_aload_n hx hb dL_areWays_252 rfl (lv_at hl 1 rfl) ?_
            refine lv_iconst (v := 0) hx hb dL_areWays_253 (by decide) ?_
            refine lv_iconst (v := 3) hx hb dL_areWays_254 (by decide) ?_
            obtain ⟨v88, k89, h⟩ := it_b h
            refine kUr_i (As := [.int (0 : Int32), .int (3 : Int32)]) (rest := []) (q := 8) hx_E h30 hI hw (c_X6_way l K ad hI30 (0 : Int32) (3 : Int32) σ1 k89) mi_X6_way mv_X6_way ml_L_98 (by decide) rfl rfl rfl ⟨⟨Nat.le_of_ble_eq_true rfl, Nat.le_of_ble_eq_true rfl⟩, rfl, rfl⟩ ⟨Nat.le_of_ble_eq_true rfl, Nat.le_of_ble_eq_true rfl⟩ hl.1 rfl (Nat.le_of_ble_eq_true rfl) dL_areWays_255 (fun H locs hw => ?_)
            refine lv_bipush (v := -2) hx hb dL_areWays_258 (by decide) ?_
            refine lv_icmp_ne (tgt := 281) hx hb dL_areWays_260 (by decide) (fun c90 => ?_) (fun c90 => ?_)
            · replace h := it_f c90 h
              refine lv_iconst (v := 0) hx hb dL_areWays_281 (by decide) ?_
              exact hE hw (congrArg Prod.fst (Option.some.inj h)) (congrArg Prod.snd (Option.some.inj h)) (Or.inl rfl) dL_areWays_282
            · replace h := it_t c90 h
              refine lv_aload_n hx hb dL_areWays_263 rfl (lv_at hl 1 rfl) ?_
              refine lv_aload_n hx hb dL_areWays_264 rfl (lv_at hl 2 rfl) ?_
              obtain ⟨v91, k92, h⟩ := it_b h
              refine kT_i (As := [.ref (ad 30)]) (rest := [.ref (ad 8)]) hx_E hw (c_L_edges l K 32 (Nat.le_of_succ_le (Nat.le_refl 32)) ad hI  σ1 k92) mi_L_edges sm_L_edges ml_L_19 rfl ⟨⟨Nat.le_of_ble_eq_true rfl, Nat.le_of_ble_eq_true rfl⟩, rfl, rfl⟩ ⟨Nat.le_of_ble_eq_true rfl, Nat.le_of_ble_eq_true rfl⟩ hl.1 rfl (Nat.le_of_ble_eq_true rfl) dL_areWays_265 (fun H locs hw => ?_)
              refine lv_iconst (v := 0) hx hb dL_areWays_268 (by decide) ?_
              obtain ⟨v93, k94, h⟩ := it_b h
              refine kUr_i (As := [.int v91, .int (0 : Int32)]) (rest := []) (q := 8) hx_E h30 hI hw (c_X6_way l K ad hI30 v91 (0 : Int32) σ1 k94) mi_X6_way mv_X6_way ml_L_98 (by decide) rfl rfl rfl ⟨⟨Nat.le_of_ble_eq_true rfl, Nat.le_of_ble_eq_true rfl⟩, rfl, rfl⟩ ⟨Nat.le_of_ble_eq_true rfl, Nat.le_of_ble_eq_true rfl⟩ hl.1 rfl (Nat.le_of_ble_eq_true rfl) dL_areWays_269 (fun H locs hw => ?_)
              refine lv_bipush (v := -2) hx hb dL_areWays_272 (by decide) ?_
              refine lv_icmp_ne (tgt := 281) hx hb dL_areWays_274 (by decide) (fun c95 => ?_) (fun c95 => ?_)
              · replace h := it_f c95 h
                refine lv_iconst (v := 0) hx hb dL_areWays_281 (by decide) ?_
                exact hE hw (congrArg Prod.fst (Option.some.inj h)) (congrArg Prod.snd (Option.some.inj h)) (Or.inl rfl) dL_areWays_282
              · replace h := it_t c95 h
                refine lv_iconst (v := 1) hx hb dL_areWays_277 (by decide) ?_
                refine lv_goto (tgt := 282) hx hb dL_areWays_278 (by decide) ?_
                exact hE hw (congrArg Prod.fst (Option.some.inj h)) (congrArg Prod.snd (Option.some.inj h)) (Or.inr rfl) dL_areWays_282
      replace h := h9
      refine lv_icmp_ne (tgt := 234) hx hb dL_areWays_159 (by decide) (fun c55 => ?_) (fun c55 => ?_)
      · replace h := it_f c55 h
        refine lv_iconst (v := 0) hx hb dL_areWays_234 (by decide) ?_
        have e9 := Option.some.inj h
        subst e9
        exact hJ57 _ rfl (Or.inl rfl) H locs ls hw (lv_sub hl [1, 2] rfl)
      · replace h := it_t c55 h
        refine lv_aload_n hx hb dL_areWays_162 rfl (lv_at hl 1 rfl) ?_
        refine lv_iconst (v := 1) hx hb dL_areWays_163 (by decide) ?_
        obtain ⟨v59, k60, h⟩ := it_b h
        refine kUr_i (As := [.int (1 : Int32)]) (rest := []) (q := 8) hx_E h30 hI hw (c_X6_misfit l K ad hI30 (1 : Int32) σ1 k60) mi_X6_misfit mv_X6_misfit ml_L_111 (by decide) rfl rfl rfl ⟨⟨Nat.le_of_ble_eq_true rfl, Nat.le_of_ble_eq_true rfl⟩, rfl, rfl⟩ ⟨Nat.le_of_ble_eq_true rfl, Nat.le_of_ble_eq_true rfl⟩ hl.1 rfl (Nat.le_of_ble_eq_true rfl) dL_areWays_164 (fun H locs hw => ?_)
        refine lv_iload hx hb dL_areWays_167 (lv_at hl 5 rfl) ?_
        refine lv_icmp_ne (tgt := 234) hx hb dL_areWays_169 (by decide) (fun c61 => ?_) (fun c61 => ?_)
        · replace h := it_f c61 h
          refine lv_iconst (v := 0) hx hb dL_areWays_234 (by decide) ?_
          have e9 := Option.some.inj h
          subst e9
          exact hJ57 _ rfl (Or.inl rfl) H locs ls hw (lv_sub hl [1, 2] rfl)
        · replace h := it_t c61 h
          refine lv_aload_n hx hb dL_areWays_172 rfl (lv_at hl 1 rfl) ?_
          refine lv_iconst (v := 2) hx hb dL_areWays_173 (by decide) ?_
          obtain ⟨v62, k63, h⟩ := it_b h
          refine kUr_i (As := [.int (2 : Int32)]) (rest := []) (q := 8) hx_E h30 hI hw (c_X6_misfit l K ad hI30 (2 : Int32) σ1 k63) mi_X6_misfit mv_X6_misfit ml_L_111 (by decide) rfl rfl rfl ⟨⟨Nat.le_of_ble_eq_true rfl, Nat.le_of_ble_eq_true rfl⟩, rfl, rfl⟩ ⟨Nat.le_of_ble_eq_true rfl, Nat.le_of_ble_eq_true rfl⟩ hl.1 rfl (Nat.le_of_ble_eq_true rfl) dL_areWays_174 (fun H locs hw => ?_)
          refine lv_iload_n hx hb dL_areWays_177 rfl (lv_at hl 3 rfl) ?_
          obtain ⟨φ67, h9, h_φ67⟩ := it_b h
          have hJ66 : ∀ (v65 : Int32), v65 = φ67 → ∀ (H : Heap) (locs : List Loc) (ls : Array Slot), PW K 32 ad (cC K ad) A s.heap σ1 H locs → lv_has ls 8 [(0, .ref (ad 8)), (1, .ref (ad 30)), (3, .int v41), (6, .int v48)] → W p l e ({ frames := 7, cells := 1, slots := 40, locals := 140 } : Room) s m args below meth c H locs 1 40 Q (F0 m 186 ls [.int v65, .int v62]) := by
            intro v65 e9 H locs ls hw hl
            subst e9
            replace h := h_φ67
            refine lv_icmp_ne (tgt := 234) hx hb dL_areWays_186 (by decide) (fun c68 => ?_) (fun c68 => ?_)
            · replace h := it_f c68 h
              refine lv_iconst (v := 0) hx hb dL_areWays_234 (by decide) ?_
              have e9 := Option.some.inj h
              subst e9
              exact hJ57 _ rfl (Or.inl rfl) H locs ls hw (lv_sub hl [0, 1] rfl)
            · replace h := it_t c68 h
              refine lv_aload_n hx hb dL_areWays_189 rfl (lv_at hl 0 rfl) ?_
              refine lv_iconst (v := 3) hx hb dL_areWays_190 (by decide) ?_
              obtain ⟨v69, k70, h⟩ := it_b h
              refine kUr_i (As := [.int (3 : Int32)]) (rest := []) (q := 8) hx_E h30 hI hw (c_X6_misfit l K ad hI30 (3 : Int32) σ1 k70) mi_X6_misfit mv_X6_misfit ml_L_111 (by decide) rfl rfl rfl ⟨⟨Nat.le_of_ble_eq_true rfl, Nat.le_of_ble_eq_true rfl⟩, rfl, rfl⟩ ⟨Nat.le_of_ble_eq_true rfl, Nat.le_of_ble_eq_true rfl⟩ hl.1 rfl (Nat.le_of_ble_eq_true rfl) dL_areWays_191 (fun H locs hw => ?_)
              refine lv_iload hx hb dL_areWays_194 (lv_at hl 3 rfl) ?_
              obtain ⟨φ74, h9, h_φ74⟩ := it_b h
              have hJ73 : ∀ (v72 : Int32), v72 = φ74 → (v72 = 0 ∨ v72 = 1) → ∀ (H : Heap) (locs : List Loc) (ls : Array Slot), PW K 32 ad (cC K ad) A s.heap σ1 H locs → lv_has ls 8 [(0, .ref (ad 8)), (1, .ref (ad 30)), (3, .int v41), (6, .int v48)] → W p l e ({ frames := 7, cells := 1, slots := 40, locals := 140 } : Room) s m args below meth c H locs 1 40 Q (F0 m 204 ls [.int v72, .int v69]) := by
                intro v72 e9 z_v72 H locs ls hw hl
                subst e9
                replace h := h_φ74
                refine lv_icmp_ne (tgt := 234) hx hb dL_areWays_204 (by decide) (fun c75 => ?_) (fun c75 => ?_)
                · replace h := it_f c75 h
                  refine lv_iconst (v := 0) hx hb dL_areWays_234 (by decide) ?_
                  have e9 := Option.some.inj h
                  subst e9
                  exact hJ57 _ rfl (Or.inl rfl) H locs ls hw (lv_sub hl [0, 1] rfl)
                · replace h := it_t c75 h
                  refine lv_aload_n hx hb dL_areWays_207 rfl (lv_at hl 0 rfl) ?_
                  refine lv_iconst (v := 4) hx hb dL_areWays_208 (by decide) ?_
                  obtain ⟨v76, k77, h⟩ := it_b h
                  refine kUr_i (As := [.int (4 : Int32)]) (rest := []) (q := 8) hx_E h30 hI hw (c_X6_misfit l K ad hI30 (4 : Int32) σ1 k77) mi_X6_misfit mv_X6_misfit ml_L_111 (by decide) rfl rfl rfl ⟨⟨Nat.le_of_ble_eq_true rfl, Nat.le_of_ble_eq_true rfl⟩, rfl, rfl⟩ ⟨Nat.le_of_ble_eq_true rfl, Nat.le_of_ble_eq_true rfl⟩ hl.1 rfl (Nat.le_of_ble_eq_true rfl) dL_areWays_209 (fun H locs hw => ?_)
                  refine lv_iload hx hb dL_areWays_212 (lv_at hl 3 rfl) ?_
                  obtain ⟨φ81, h9, h_φ81⟩ := it_b h
                  have hJ80 : ∀ (v79 : Int32), v79 = φ81 → (v79 = 0 ∨ v79 = 1) → ∀ (H : Heap) (locs : List Loc) (ls : Array Slot), PW K 32 ad (cC K ad) A s.heap σ1 H locs → lv_has ls 8 [(0, .ref (ad 8)), (1, .ref (ad 30))] → W p l e ({ frames := 7, cells := 1, slots := 40, locals := 140 } : Room) s m args below meth c H locs 1 40 Q (F0 m 227 ls [.int v79, .int v76]) := by
                    intro v79 e9 z_v79 H locs ls hw hl
                    subst e9
                    replace h := h_φ81
                    refine lv_icmp_ne (tgt := 234) hx hb dL_areWays_227 (by decide) (fun c83 => ?_) (fun c83 => ?_)
                    · replace h := it_f c83 h
                      refine lv_iconst (v := 0) hx hb dL_areWays_234 (by decide) ?_
                      have e9 := Option.some.inj h
                      subst e9
                      exact hJ57 _ rfl (Or.inl rfl) H locs ls hw (lv_sub hl [0, 1] rfl)
                    · replace h := it_t c83 h
                      refine lv_iconst (v := 1) hx hb dL_areWays_230 (by decide) ?_
                      refine lv_goto (tgt := 235) hx hb dL_areWays_231 (by decide) ?_
                      have e9 := Option.some.inj h
                      subst e9
                      exact hJ57 _ rfl (Or.inr rfl) H locs ls hw (lv_sub hl [0, 1] rfl)
                  replace h := h9
                  refine lv_if_eq (tgt := 226) hx hb dL_areWays_214 (by decide) (fun c78 => ?_) (fun c78 => ?_)
                  · replace h := it_t c78 h
                    refine lv_iconst (v := 0) hx hb dL_areWays_226 (by decide) ?_
                    have e9 := Option.some.inj h
                    subst e9
                    exact hJ80 _ rfl (Or.inl rfl) H locs ls hw (lv_sub hl [0, 1] rfl)
                  · replace h := it_f c78 h
                    refine lv_iload_n hx hb dL_areWays_217 rfl (lv_at hl 2 rfl) ?_
                    refine lv_iconst (v := -1) hx hb dL_areWays_218 (by decide) ?_
                    refine lv_icmp_ne (tgt := 226) hx hb dL_areWays_219 (by decide) (fun c82 => ?_) (fun c82 => ?_)
                    · replace h := it_f c82 h
                      refine lv_iconst (v := 0) hx hb dL_areWays_226 (by decide) ?_
                      have e9 := Option.some.inj h
                      subst e9
                      exact hJ80 _ rfl (Or.inl rfl) H locs ls hw (lv_sub hl [0, 1] rfl)
                    · replace h := it_t c82 h
                      refine lv_iconst (v := 1) hx hb dL_areWays_222 (by decide) ?_
                      refine lv_goto (tgt := 227) hx hb dL_areWays_223 (by decide) ?_
                      have e9 := Option.some.inj h
                      subst e9
                      exact hJ80 _ rfl (Or.inr rfl) H locs ls hw (lv_sub hl [0, 1] rfl)
              replace h := h9
              refine lv_if_eq (tgt := 203) hx hb dL_areWays_196 (by decide) (fun c71 => ?_) (fun c71 => ?_)
              · replace h := it_t c71 h
                refine lv_iconst (v := 0) hx hb dL_areWays_203 (by decide) ?_
                have e9 := Option.some.inj h
                subst e9
                exact hJ73 _ rfl (Or.inl rfl) H locs ls hw (lv_sub hl [0, 1, 2, 3] rfl)
              · replace h := it_f c71 h
                refine lv_iconst (v := 1) hx hb dL_areWays_199 (by decide) ?_
                refine lv_goto (tgt := 204) hx hb dL_areWays_200 (by decide) ?_
                have e9 := Option.some.inj h
                subst e9
                exact hJ73 _ rfl (Or.inr rfl) H locs ls hw (lv_sub hl [0, 1, 2, 3] rfl)
          replace h := h9
          refine lv_if_ge (tgt := 185) hx hb dL_areWays_178 (by decide) (fun c64 => ?_) (fun c64 => ?_)
          · replace h := it_t c64 h
            refine lv_iload_n hx hb dL_areWays_185 rfl (lv_at hl 3 rfl) ?_
            have e9 := Option.some.inj h
            subst e9
            exact hJ66 _ rfl  H locs ls hw (lv_sub hl [1, 2, 3, 0] rfl)
          · replace h := it_f c64 h
            refine lv_iconst (v := -1) hx hb dL_areWays_181 (by decide) ?_
            refine lv_goto (tgt := 186) hx hb dL_areWays_182 (by decide) ?_
            have e9 := Option.some.inj h
            subst e9
            exact hJ66 _ rfl  H locs ls hw (lv_sub hl [1, 2, 3, 0] rfl)
    replace h := h9
    refine lv_if_ge (tgt := 149) hx hb dL_areWays_133 (by decide) (fun c47 => ?_) (fun c47 => ?_)
    · replace h := it_t c47 h
      refine lv_iconst (v := 0) hx hb dL_areWays_149 (by decide) ?_
      have e9 := Option.some.inj h
      subst e9
      exact hJ49 _ rfl (Or.inl rfl) H locs ls hw (lv_sub hl [3, 4, 2, 1, 0] rfl)
    · replace h := it_f c47 h
      refine lv_iload hx hb dL_areWays_136 (lv_at hl 0 rfl) ?_
      refine lv_if_ge (tgt := 149) hx hb dL_areWays_138 (by decide) (fun c51 => ?_) (fun c51 => ?_)
      · replace h := it_t c51 h
        refine lv_iconst (v := 0) hx hb dL_areWays_149 (by decide) ?_
        have e9 := Option.some.inj h
        subst e9
        exact hJ49 _ rfl (Or.inl rfl) H locs ls hw (lv_sub hl [3, 4, 2, 1, 0] rfl)
      · replace h := it_f c51 h
        refine lv_iload_n hx hb dL_areWays_141 rfl (lv_at hl 2 rfl) ?_
        refine lv_if_ge (tgt := 149) hx hb dL_areWays_142 (by decide) (fun c52 => ?_) (fun c52 => ?_)
        · replace h := it_t c52 h
          refine lv_iconst (v := 0) hx hb dL_areWays_149 (by decide) ?_
          have e9 := Option.some.inj h
          subst e9
          exact hJ49 _ rfl (Or.inl rfl) H locs ls hw (lv_sub hl [3, 4, 2, 1, 0] rfl)
        · replace h := it_f c52 h
          refine lv_iconst (v := 1) hx hb dL_areWays_145 (by decide) ?_
          refine lv_goto (tgt := 150) hx hb dL_areWays_146 (by decide) ?_
          have e9 := Option.some.inj h
          subst e9
          exact hJ49 _ rfl (Or.inr rfl) H locs ls hw (lv_sub hl [3, 4, 2, 1, 0] rfl)
  have hL4 : ∀ (n9 : Nat) (v3 : Int32), ∀ (H : Heap) (locs : List Loc) (ls : Array Slot), f_L_areWaysT_12 σ1 n9 v3 = some φ6 → PW K 32 ad (cC K ad) A s.heap σ1 H locs → lv_has ls 8 [(0, .ref (ad 8)), (1, .ref (ad 30)), (2, .ref (ad 31)), (3, .int v3)] → W p l e ({ frames := 7, cells := 1, slots := 40, locals := 140 } : Room) s m args below meth c H locs 1 40 Q (F0 m 12 ls []) := by
    intro n9
    induction n9 with
    | zero => intro v3 H locs ls h hw hl; rw [f_L_areWaysT_12.eq_1] at h; exact it_n h
    | succ n9 ih =>
      intro v3 H locs ls h hw hl
      rw [f_L_areWaysT_12.eq_2] at h
      refine lv_iload_n hx hb dL_areWays_12 rfl (lv_at hl 3 rfl) ?_
      refine lv_aload_n hx hb dL_areWays_13 rfl (lv_at hl 1 rfl) ?_
      obtain ⟨v7, k8, h⟩ := it_b h
      refine kT_i (As := [.ref (ad 30)]) (rest := [.int v3]) hx_E hw (c_L_edges l K 32 (Nat.le_of_succ_le (Nat.le_refl 32)) ad hI  σ1 k8) mi_L_edges sm_L_edges ml_L_19 rfl ⟨⟨Nat.le_of_ble_eq_true rfl, Nat.le_of_ble_eq_true rfl⟩, rfl, rfl⟩ ⟨Nat.le_of_ble_eq_true rfl, Nat.le_of_ble_eq_true rfl⟩ hl.1 rfl (Nat.le_of_ble_eq_true rfl) dL_areWays_14 (fun H locs hw => ?_)
      refine lv_icmp_ge (tgt := 113) hx hb dL_areWays_17 (by decide) (fun c9 => ?_) (fun c9 => ?_)
      · replace h := it_t c9 h
        have e9 := Option.some.inj h
        subst e9
        exact hJ5 () rfl  H locs ls hw (lv_sub hl [0, 1, 2] rfl)
      · replace h := it_f c9 h
        refine lv_aload_n hx hb dL_areWays_20 rfl (lv_at hl 2 rfl) ?_
        refine lv_iload_n hx hb dL_areWays_21 rfl (lv_at hl 3 rfl) ?_
        obtain ⟨g10, h⟩ := it_g h
        refine aC_31 hx_E hw (Nat.le_refl 32) g10 dL_areWays_22 ?_
        obtain ⟨φ14, h9, h_φ14⟩ := it_b h
        have hJ13 : ∀ (v12 : Int32), v12 = φ14 → (v12 = 0 ∨ v12 = 1) → ∀ (H : Heap) (locs : List Loc) (ls : Array Slot), PW K 32 ad (cC K ad) A s.heap σ1 H locs → lv_has ls 8 [(0, .ref (ad 8)), (1, .ref (ad 30)), (2, .ref (ad 31)), (3, .int v3)] → W p l e ({ frames := 7, cells := 1, slots := 40, locals := 140 } : Room) s m args below meth c H locs 1 40 Q (F0 m 31 ls [.int v12]) := by
          intro v12 e9 z_v12 H locs ls hw hl
          subst e9
          replace h := h_φ14
          refine lv_istore (lv' := [(4, .int v12), (0, .ref (ad 8)), (1, .ref (ad 30)), (2, .ref (ad 31)), (3, .int v3)]) hx hb dL_areWays_31 hl (by decide) rfl (fun ls hl => ?_)
          refine lv_aload_n hx hb dL_areWays_33 rfl (lv_at hl 1 rfl) ?_
          refine lv_iload_n hx hb dL_areWays_34 rfl (lv_at hl 4 rfl) ?_
          refine lv_iconst (v := 0) hx hb dL_areWays_35 (by decide) ?_
          obtain ⟨v15, k16, h⟩ := it_b h
          refine kUr_i (As := [.int v3, .int (0 : Int32)]) (rest := []) (q := 8) hx_E h30 hI hw (c_X6_way l K ad hI30 v3 (0 : Int32) σ1 k16) mi_X6_way mv_X6_way ml_L_98 (by decide) rfl rfl rfl ⟨⟨Nat.le_of_ble_eq_true rfl, Nat.le_of_ble_eq_true rfl⟩, rfl, rfl⟩ ⟨Nat.le_of_ble_eq_true rfl, Nat.le_of_ble_eq_true rfl⟩ hl.1 rfl (Nat.le_of_ble_eq_true rfl) dL_areWays_36 (fun H locs hw => ?_)
          refine lv_iload hx hb dL_areWays_39 (lv_at hl 0 rfl) ?_
          obtain ⟨φ20, h9, h_φ20⟩ := it_b h
          have hJ19 : ∀ (v18 : Int32), v18 = φ20 → ∀ (H : Heap) (locs : List Loc) (ls : Array Slot), PW K 32 ad (cC K ad) A s.heap σ1 H locs → lv_has ls 8 [(0, .ref (ad 8)), (1, .ref (ad 30)), (2, .ref (ad 31)), (3, .int v3), (4, .int v12)] → W p l e ({ frames := 7, cells := 1, slots := 40, locals := 140 } : Room) s m args below meth c H locs 1 40 Q (F0 m 56 ls [.int v18, .int v15]) := by
            intro v18 e9 H locs ls hw hl
            subst e9
            replace h := h_φ20
            refine lv_icmp_ne (tgt := 105) hx hb dL_areWays_56 (by decide) (fun c24 => ?_) (fun c24 => ?_)
            · replace h := it_f c24 h
              refine lv_iconst (v := 0) hx hb dL_areWays_105 (by decide) ?_
              have e9 := Option.some.inj h
              subst e9
              replace h := h_φ6
              exact hE hw (congrArg Prod.fst (Option.some.inj h)) (congrArg Prod.snd (Option.some.inj h)) (Or.inl rfl) dL_areWays_106
            · replace h := it_t c24 h
              refine lv_aload_n hx hb dL_areWays_59 rfl (lv_at hl 0 rfl) ?_
              refine lv_iload_n hx hb dL_areWays_60 rfl (lv_at hl 3 rfl) ?_
              refine lv_iconst (v := 1) hx hb dL_areWays_61 (by decide) ?_
              obtain ⟨v25, k26, h⟩ := it_b h
              refine kUr_i (As := [.int v3, .int (1 : Int32)]) (rest := []) (q := 8) hx_E h30 hI hw (c_X6_way l K ad hI30 v3 (1 : Int32) σ1 k26) mi_X6_way mv_X6_way ml_L_98 (by decide) rfl rfl rfl ⟨⟨Nat.le_of_ble_eq_true rfl, Nat.le_of_ble_eq_true rfl⟩, rfl, rfl⟩ ⟨Nat.le_of_ble_eq_true rfl, Nat.le_of_ble_eq_true rfl⟩ hl.1 rfl (Nat.le_of_ble_eq_true rfl) dL_areWays_62 (fun H locs hw => ?_)
              refine lv_aload_n hx hb dL_areWays_65 rfl (lv_at hl 2 rfl) ?_
              refine lv_iload_n hx hb dL_areWays_66 rfl (lv_at hl 3 rfl) ?_
              obtain ⟨g27, h⟩ := it_g h
              refine aC_31 hx_E hw (Nat.le_refl 32) g27 dL_areWays_67 ?_
              refine lv_icmp_ne (tgt := 105) hx hb dL_areWays_68 (by decide) (fun c28 => ?_) (fun c28 => ?_)
              · replace h := it_f c28 h
                refine lv_iconst (v := 0) hx hb dL_areWays_105 (by decide) ?_
                have e9 := Option.some.inj h
                subst e9
                replace h := h_φ6
                exact hE hw (congrArg Prod.fst (Option.some.inj h)) (congrArg Prod.snd (Option.some.inj h)) (Or.inl rfl) dL_areWays_106
              · replace h := it_t c28 h
                refine lv_aload_n hx hb dL_areWays_71 rfl (lv_at hl 0 rfl) ?_
                refine lv_iload_n hx hb dL_areWays_72 rfl (lv_at hl 3 rfl) ?_
                refine lv_iconst (v := 2) hx hb dL_areWays_73 (by decide) ?_
                obtain ⟨v29, k30, h⟩ := it_b h
                refine kUr_i (As := [.int v3, .int (2 : Int32)]) (rest := []) (q := 8) hx_E h30 hI hw (c_X6_way l K ad hI30 v3 (2 : Int32) σ1 k30) mi_X6_way mv_X6_way ml_L_98 (by decide) rfl rfl rfl ⟨⟨Nat.le_of_ble_eq_true rfl, Nat.le_of_ble_eq_true rfl⟩, rfl, rfl⟩ ⟨Nat.le_of_ble_eq_true rfl, Nat.le_of_ble_eq_true rfl⟩ hl.1 rfl (Nat.le_of_ble_eq_true rfl) dL_areWays_74 (fun H locs hw => ?_)
                refine lv_iload hx hb dL_areWays_77 (lv_at hl 4 rfl) ?_
                obtain ⟨φ34, h9, h_φ34⟩ := it_b h
                have hJ33 : ∀ (v32 : Int32), v32 = φ34 → ∀ (H : Heap) (locs : List Loc) (ls : Array Slot), PW K 32 ad (cC K ad) A s.heap σ1 H locs → lv_has ls 8 [(0, .ref (ad 8)), (1, .ref (ad 30)), (2, .ref (ad 31)), (3, .int v3)] → W p l e ({ frames := 7, cells := 1, slots := 40, locals := 140 } : Room) s m args below meth c H locs 1 40 Q (F0 m 102 ls [.int v32, .int v29]) := by
                  intro v32 e9 H locs ls hw hl
                  subst e9
                  replace h := h_φ34
                  refine lv_icmp_eq (tgt := 107) hx hb dL_areWays_102 (by decide) (fun c40 => ?_) (fun c40 => ?_)
                  · replace h := it_t c40 h
                    refine lv_iinc (v := (v3 + 1)) (lv' := [(3, .int (v3 + 1)), (0, .ref (ad 8)), (1, .ref (ad 30)), (2, .ref (ad 31))]) hx hb dL_areWays_107 hl (k := 3) rfl rfl (by decide) rfl (fun ls hl => ?_)
                    refine lv_goto (tgt := 12) hx hb dL_areWays_110 (by decide) ?_
                    exact ih _    H locs ls h hw (lv_sub hl [1, 2, 3, 0] rfl)
                  · replace h := it_f c40 h
                    refine lv_iconst (v := 0) hx hb dL_areWays_105 (by decide) ?_
                    have e9 := Option.some.inj h
                    subst e9
                    replace h := h_φ6
                    exact hE hw (congrArg Prod.fst (Option.some.inj h)) (congrArg Prod.snd (Option.some.inj h)) (Or.inl rfl) dL_areWays_106
                replace h := h9
                refine lv_if_eq (tgt := 101) hx hb dL_areWays_79 (by decide) (fun c31 => ?_) (fun c31 => ?_)
                · replace h := it_t c31 h
                  refine lv_iconst (v := -1) hx hb dL_areWays_101 (by decide) ?_
                  have e9 := Option.some.inj h
                  subst e9
                  exact hJ33 _ rfl  H locs ls hw (lv_sub hl [0, 1, 2, 3] rfl)
                · replace h := it_f c31 h
                  refine lv_aload_n hx hb dL_areWays_82 rfl (lv_at hl 1 rfl) ?_
                  refine lv_aload_n hx hb dL_areWays_83 rfl (lv_at hl 2 rfl) ?_
                  refine lv_aload_n hx hb dL_areWays_84 rfl (lv_at hl 2 rfl) ?_
                  refine lv_iload_n hx hb dL_areWays_85 rfl (lv_at hl 3 rfl) ?_
                  obtain ⟨g35, h⟩ := it_g h
                  refine aC_31 hx_E hw (Nat.le_refl 32) g35 dL_areWays_86 ?_
                  obtain ⟨v36, k37, h⟩ := it_b h
                  refine kT_z (As := [.ref (ad 30), .ref (ad 31), .int (gI σ1 31 v3.toNatClampNeg)]) (rest := [.int v29]) hx_E hw (c_L_isRing l K 32 (Nat.le_refl 32) ad hI (gI σ1 31 v3.toNatClampNeg) σ1 k37) mi_L_isRing sm_L_isRing ml_L_39 rfl ⟨⟨Nat.le_of_ble_eq_true rfl, Nat.le_of_ble_eq_true rfl⟩, rfl, rfl⟩ ⟨Nat.le_of_ble_eq_true rfl, Nat.le_of_ble_eq_true rfl⟩ hl.1 rfl (Nat.le_of_ble_eq_true rfl) dL_areWays_87 (fun z38 H locs hw => ?_)
                  refine lv_if_eq (tgt := 97) hx hb dL_areWays_90 (by decide) (fun c39 => ?_) (fun c39 => ?_)
                  · replace h := it_t c39 h
                    refine lv_iconst (v := 0) hx hb dL_areWays_97 (by decide) ?_
                    refine lv_goto (tgt := 102) hx hb dL_areWays_98 (by decide) ?_
                    have e9 := Option.some.inj h
                    subst e9
                    exact hJ33 _ rfl  H locs ls hw (lv_sub hl [0, 1, 2, 3] rfl)
                  · replace h := it_f c39 h
                    refine lv_iconst (v := 1) hx hb dL_areWays_93 (by decide) ?_
                    refine lv_goto (tgt := 102) hx hb dL_areWays_94 (by decide) ?_
                    have e9 := Option.some.inj h
                    subst e9
                    exact hJ33 _ rfl  H locs ls hw (lv_sub hl [0, 1, 2, 3] rfl)
          replace h := h9
          refine lv_if_eq (tgt := 55) hx hb dL_areWays_41 (by decide) (fun c17 => ?_) (fun c17 => ?_)
          · replace h := it_t c17 h
            refine lv_iconst (v := -1) hx hb dL_areWays_55 (by decide) ?_
            have e9 := Option.some.inj h
            subst e9
            exact hJ19 _ rfl  H locs ls hw (lv_sub hl [1, 2, 3, 4, 0] rfl)
          · replace h := it_f c17 h
            refine lv_aload_n hx hb dL_areWays_44 rfl (lv_at hl 2 rfl) ?_
            refine lv_aload_n hx hb dL_areWays_45 rfl (lv_at hl 3 rfl) ?_
            refine lv_aload_n hx hb dL_areWays_46 rfl (lv_at hl 3 rfl) ?_
            refine lv_iload_n hx hb dL_areWays_47 rfl (lv_at hl 4 rfl) ?_
            obtain ⟨g21, h⟩ := it_g h
            refine aC_31 hx_E hw (Nat.le_refl 32) g21 dL_areWays_48 ?_
            obtain ⟨v22, k23, h⟩ := it_b h
            refine kT_i (As := [.ref (ad 30), .ref (ad 31), .int (gI σ1 31 v3.toNatClampNeg)]) (rest := [.int v15]) hx_E hw (c_L_size l K 32 (Nat.le_refl 32) ad hI (gI σ1 31 v3.toNatClampNeg) σ1 k23) mi_L_size sm_L_size ml_L_47 rfl ⟨⟨Nat.le_of_ble_eq_true rfl, Nat.le_of_ble_eq_true rfl⟩, rfl, rfl⟩ ⟨Nat.le_of_ble_eq_true rfl, Nat.le_of_ble_eq_true rfl⟩ hl.1 rfl (Nat.le_of_ble_eq_true rfl) dL_areWays_49 (fun H locs hw => ?_)
            refine lv_goto (tgt := 56) hx hb dL_areWays_52 (by decide) ?_
            have e9 := Option.some.inj h
            subst e9
            exact hJ19 _ rfl  H locs ls hw (lv_sub hl [1, 2, 3, 4, 0] rfl)
        replace h := h9
        refine lv_if_lt (tgt := 30) hx hb dL_areWays_23 (by decide) (fun c11 => ?_) (fun c11 => ?_)
        · replace h := it_t c11 h
          refine lv_iconst (v := 0) hx hb dL_areWays_30 (by decide) ?_
          have e9 := Option.some.inj h
          subst e9
          exact hJ13 _ rfl (Or.inl rfl) H locs ls hw (lv_sub hl [0, 1, 2, 3] rfl)
        · replace h := it_f c11 h
          refine lv_iconst (v := 1) hx hb dL_areWays_26 (by decide) ?_
          refine lv_goto (tgt := 31) hx hb dL_areWays_27 (by decide) ?_
          have e9 := Option.some.inj h
          subst e9
          exact hJ13 _ rfl (Or.inr rfl) H locs ls hw (lv_sub hl [0, 1, 2, 3] rfl)
  exact hL4 600 _   H locs ls h9 hw (lv_sub hl [2, 3, 1, 0] rfl)
set_option maxHeartbeats 4000000 in
theorem cC_32 (K : vK) (ad : Nat → Nat) (x k : Nat) (hk : k < 31) (f : Nat → Int32) (g : Nat → Int64) : cC K (fun j => if j = 31 then x else ad j) k f g = cC K ad k f g := by
  match k, hk with
  | 0, _ => rfl
  | 1, _ => rfl
  | 2, _ => rfl
  | 3, _ => rfl
  | 4, _ => rfl
  | 5, _ => rfl
  | 6, _ => rfl
  | 7, _ => rfl
  | 8, _ => rfl
  | 9, _ => rfl
  | 10, _ => rfl
  | 11, _ => rfl
  | 12, _ => rfl
  | 13, _ => rfl
  | 14, _ => rfl
  | 15, _ => rfl
  | 16, _ => rfl
  | 17, _ => rfl
  | 18, _ => rfl
  | 19, _ => rfl
  | 20, _ => rfl
  | 21, _ => rfl
  | 22, _ => rfl
  | 23, _ => rfl
  | 24, _ => rfl
  | 25, _ => rfl
  | 26, _ => rfl
  | 27, _ => rfl
  | 28, _ => rfl
  | 29, _ => rfl
  | 30, _ => rfl
  | k + 31, hk => exact absurd hk (by omega)
theorem wG_32 (K : vK) (ad : Nat → Nat) (σ : vSt) (x : Nat) : wG 31 ad (cC K ad) σ ++ [(x, .inl (K.2 0, 40, .inl (fun _ => 0)))] = wG 32 (fun j => if j = 31 then x else ad j) (cC K (fun j => if j = 31 then x else ad j)) (mergeS 31 σ st_0) := by
  apply List.ext_getElem?
  intro k
  by_cases h : k < 31
  · rw [List.getElem?_append_left (by rw [wG_len]; exact h), wG_at h, wG_at (Nat.lt_of_lt_of_le h (by decide)), cC_32 K ad x k h, mergeS_l1 _ _ h, mergeS_l2 _ _ h]
    show some (ad k, _) = some ((if k = 31 then x else ad k), _)
    rw [if_neg (by omega)]
  · rw [List.getElem?_append_right (by rw [wG_len]; omega), wG_len]
    by_cases h2 : k = 31
    · subst h2
      rw [wG_at (by decide)]
      rfl
    · rw [wG_no (by omega), List.getElem?_eq_none (by show 1 ≤ k - 31; omega)]
set_option maxHeartbeats 4000000 in
theorem c_L_areWays (l : Launch) (K : vK) (ad : Nat → Nat) (hI : adInj 31 ad) (σ : vSt) {r : Int32} {σ' : vSt} (h : f_L_areWays σ = some (r, σ')) (sz : Nat) : Met l yL_areWays (wsY yL_areWays cL_areWays 8 (some .boolean)) ({ frames := 7, cells := 1, slots := 40, locals := 140 } : Room) (PcW K 31 ad (cC K ad) [.ref (ad 8), .ref (ad 30)] σ sz) (QCz K 31 ad (cC K ad) r σ' sz) 1 40 (AA 31 ad sz) := by
  refine va_MetF (cc := cL_areWays) (maxL := 8) (ret := some .boolean) (plainFor_of_name (by decide)) rfl ?_
  intro p e s m args below meth c s₁ B hml hv
  obtain ⟨rfl, hsz, hP, hK, hAm⟩ := hv
  have hts0 := atoms_spec (ws := wsY yL_areWays cL_areWays 8 (some .boolean)) B.pre
  have hts : ∀ w ∈ gtbl, w.before _ s = true := fun w hw => hts0 w (List.mem_cons_of_mem _ hw)
  have hown : s.vm.findClass RL = some m.cls := findClass_of_methodNamed B.named
  subst hsz
  have hx := B.exec
  have hb := B.bytes
  have hr := B.returns
  have hlocks := B.notSynchronized
  have hl := lv_entry ([.ref (ad 8), .ref (ad 30)]) (n := 8) (Nat.le_of_ble_eq_true rfl)
  rw [lg_entry_eq]
  generalize (lg_sl ([.ref (ad 8), .ref (ad 30)]) ++ List.replicate (8 - (lg_sl ([.ref (ad 8), .ref (ad 30)])).length) Slot.unset).toArray = ls at hl ⊢
  replace hl : lv_has ls 8 [(0, .ref (ad 8)), (1, .ref (ad 30))] := hl
  have hS : va_S (AA 31 ad s.heap.size) s.heap s.heap [] := va_S.rf
  have hD : va_D (AA 31 ad s.heap.size) (wG 31 ad (cC K ad) σ) := wG_D hI (fun k hk => Or.inl ⟨k, hk, rfl⟩) σ
  have hE : EK p s m #[.ref (ad 8), .ref (ad 30)] c cL_areWays 8 RL K (AA 31 ad s.heap.size) := ⟨hx, hb, hml, hown, hts, hK, fun q h => Or.inr h, hAm⟩
  refine lv_bipush (v := 40) hx hb dL_areWays_0 (by decide) ?_
  refine n_arr (at' := .int) (ty := .int) (j := 0) (a1 := .inl (fun _ => 0)) (N' := 40) rfl ac_int rfl ra_i (fun _ => rfl) hE hP hD hS (by decide) (by decide) (by decide) (Nat.le_of_ble_eq_true rfl) (Nat.le_of_ble_eq_true rfl) dL_areWays_2 (fun x H hP1 hD1 hS1 => ?_)
  have hxA : AA 31 ad s.heap.size x := hD1.2 31 (x, .inl (K.2 0, 40, .inl (fun _ => 0))) (by rw [List.getElem?_append_right (by rw [wG_len]; exact Nat.le_refl _), wG_len]; rfl)
  have hxne : ∀ k, k < 31 → ad k ≠ x := fun k hk => vD_x hD1 (wG_at hk) (j := 0) (q := (x, .inl (K.2 0, 40, .inl (fun _ => 0)))) rfl
  have hxs : s.heap.size ≤ x := by
    rcases hxA with ⟨k, hk, h9⟩ | h9
    · exact absurd h9.symm (hxne k hk)
    · exact h9
  rw [wG_32] at hP1
  obtain ⟨ad', ead⟩ : ∃ ad' : Nat → Nat, ad' = fun j => if j = 31 then x else ad j := ⟨_, rfl⟩
  have e31 : ad' 31 = x := by rw [ead]; rfl
  have elt : ∀ k, k < 31 → ad' k = ad k := fun k hk => by rw [ead]; exact if_neg (by omega)
  have ecC : ∀ k, k < 31 → ∀ (f : Nat → Int32) (g : Nat → Int64), cC K ad' k f g = cC K ad k f g := fun k hk f g => by rw [ead]; exact cC_32 K ad x k hk f g
  rw [← ead] at hP1
  clear ead
  have hI' : adInj 32 ad' := by
    intro i j hi hj hij
    by_cases h1 : i = 31
    · by_cases h2 : j = 31
      · rw [h1, h2]
      · rw [h1, e31, elt j (by omega)] at hij
        exact absurd hij.symm (hxne j (by omega))
    · by_cases h2 : j = 31
      · rw [h2, e31, elt i (by omega)] at hij
        exact absurd hij (hxne i (by omega))
      · rw [elt i (by omega), elt j (by omega)] at hij
        exact hI i j (by omega) (by omega) hij
  have hA' : ∀ k, k < 32 → AA 31 ad s.heap.size (ad' k) := by
    intro k hk
    by_cases h1 : k = 31
    · rw [h1, e31]; exact hxA
    · rw [elt k (by omega)]; exact Or.inl ⟨k, by omega, rfl⟩
  have E2 : EC p s m #[.ref (ad 8), .ref (ad 30)] c cL_areWays 8 gtbl RL K 32 ad' (cC K ad') (AA 31 ad s.heap.size) := by
    refine ⟨hx, hb, hml, hown, hts, hK, wG_D hI' hA', fun q => ⟨fun h => ?_, fun h => ?_⟩, hAm⟩
    · rcases h with ⟨k, hk, rfl⟩ | h
      · exact Or.inl ⟨k, by omega, (elt k hk).symm⟩
      · exact Or.inr h
    · rcases h with ⟨k, hk, rfl⟩ | h
      · exact hA' k hk
      · exact Or.inr h
  have e8 : ad 8 = ad' 8 := (elt 8 (by decide)).symm
  have e30 : ad 30 = ad' 30 := (elt 30 (by decide)).symm
  refine W.widen (k := 1) (n := 40) (by omega) (by omega) ?_
  refine lv_astore_n (lv' := [(2, .ref x), (0, .ref (ad 8)), (1, .ref (ad 30))]) hx hb dL_areWays_4 rfl hl (by decide) rfl (fun ls hl => ?_)
  rw [← e31, e30, e8] at hl
  refine c_L_areWaysT (r := r) (σ' := σ') hI' E2 (fun {H2 locs2 pc2 ls2 v σ1} hw h1 h2 hz hdg => ?_) H _ ls ⟨hP1, hS1⟩ hl h
  subst h1
  subst h2
  refine W.zret hx hb hr ?_ (fun t ht hW => ⟨⟨v, σ1, rfl, ⟨⟨rfl, rfl⟩, hz⟩, ?_⟩, hw.2.F ht⟩) hw.2.2.2 hdg hlocks
  · rcases hz with rfl | rfl <;> rfl
  · unfold BW
    rw [ht]
    intro k q hq
    obtain ⟨hk, rfl⟩ := wG_some hq
    have h9 := hw.1 k _ (wG_at (Nat.lt_of_lt_of_le hk (by decide)))
    rw [elt k hk, ecC k hk] at h9
    exact h9
set_option maxHeartbeats 16000000 in
set_option maxRecDepth 100000 in
theorem c_L_law {l : Launch} {K : vK} {ad : Nat → Nat} {p : Program} {e : Env} {s : State} {m : MethodId} {below : List Frame} {meth : Method} {c : Code} {A : Nat → Prop} {Q : State → Prop} {b L : Nat} {xs : Nat → Int32} {σ : vSt} {r : Int32} {σ' : vSt} (hI : adInj 31 ad) (hx_E : EC p s m #[Value.ref b] c code 8 gtbl RL K 31 ad (cC K ad) A) (hX : va_X b L xs s s.heap ∧ L ≤ 260) (hbl : b < s.heap.size) (hbA : ¬ A b) (hE : ∀ {H : Heap} {locs : List Loc} {pc : Nat} {ls : Array Slot} {v : Int32} {σ1 : vSt}, PW K 31 ad (cC K ad) A s.heap σ1 H locs → v = r → σ1 = σ' → (v = 0 ∨ v = 1) → decode code pc = .ok (.ireturn, 1) → W p l e room_1 s m #[Value.ref b] below meth c H locs 600000 7302250 Q (F0 m pc ls [.int v])) (H : Heap) (locs : List Loc) (ls : Array Slot) (hw : PW K 31 ad (cC K ad) A s.heap σ H locs) (hl : lv_has ls 8 [(2, .ref (ad 30)), (1, .ref (ad 8)), (0, .ref b)]) (h : f_L_law L xs σ = some (r, σ')) : W p l e room_1 s m #[Value.ref b] below meth c H locs 31 768 Q (F0 m 13 ls []) := by
  have hx := hx_E.1; have hb := hx_E.2.1; have hown := hx_E.2.2.2.1; have hts := hx_E.2.2.2.2.1
  have h30 : 30 ≤ 31 := by decide
  have hI30 : adInj 30 ad := adInj_le h30 hI
  unfold f_L_law at h
  refine lv_aload_n hx hb dL_law_13 rfl (lv_at hl 0 rfl) ?_
  refine lv_iconst (v := 0) hx hb dL_law_14 (by decide) ?_
  refine lv_iconst (v := 3) hx hb dL_law_15 (by decide) ?_
  refine scC_30 hx_E hw (Nat.le_refl 31) (by decide) rfl dL_law_16 (fun H locs hw => ?_)
  refine lv_aload_n hx hb dL_law_17 rfl (lv_at hl 0 rfl) ?_
  refine lv_iconst (v := 1) hx hb dL_law_18 (by decide) ?_
  refine lv_iconst (v := 3) hx hb dL_law_19 (by decide) ?_
  refine scC_30 hx_E hw (Nat.le_refl 31) (by decide) rfl dL_law_20 (fun H locs hw => ?_)
  refine lv_iconst (v := 0) hx hb dL_law_21 (by decide) ?_
  refine lv_istore_n (lv' := [(3, .int (0 : Int32)), (2, .ref (ad 30)), (1, .ref (ad 8)), (0, .ref b)]) hx hb dL_law_22 rfl hl (by decide) rfl (fun ls hl => ?_)
  obtain ⟨σ1, e_σ1, h⟩ := it_b h
  replace hw := PW_cast (Option.some.inj e_σ1) hw
  obtain ⟨φ7, h9, h_φ7⟩ := it_b h
  have hJ6 : ∀ (σ4 : vSt), σ4 = φ7 → ∀ (H : Heap) (locs : List Loc) (ls : Array Slot), PW K 31 ad (cC K ad) A s.heap σ4 H locs → lv_has ls 8 [(0, .ref b), (1, .ref (ad 8)), (2, .ref (ad 30))] → W p l e room_1 s m #[Value.ref b] below meth c H locs 31 768 Q (F0 m 41 ls []) := by
    intro σ4 e9 H locs ls hw hl
    subst e9
    replace h := h_φ7
    refine lv_aload_n hx hb dL_law_41 rfl (lv_at hl 1 rfl) ?_
    obtain ⟨⟨v10, σ11⟩, k12, h⟩ := it_b h
    refine kU_i (As := []) (rest := []) (q := 8) hx_E h30 hI hw (c_X6_undo l K ad hI30  σ4 k12) mi_X6_undo mv_X6_undo ml_L_118 (by decide) rfl rfl rfl ⟨⟨Nat.le_of_ble_eq_true rfl, Nat.le_of_ble_eq_true rfl⟩, rfl, rfl⟩ ⟨Nat.le_of_ble_eq_true rfl, Nat.le_of_ble_eq_true rfl⟩ hl.1 rfl (Nat.le_of_ble_eq_true rfl) dL_law_42 (fun H locs hw => ?_)
    obtain ⟨σ13, e_σ13, h⟩ := it_b h
    replace hw := PW_cast (Option.some.inj e_σ13) hw
    refine lv_bipush (v := -3) hx hb dL_law_45 (by decide) ?_
    refine lv_icmp_ne (tgt := 113) hx hb dL_law_47 (by decide) (fun c14 => ?_) (fun c14 => ?_)
    · replace h := it_f c14 h
      refine lv_iconst (v := 0) hx hb dL_law_113 (by decide) ?_
      refine W.widen (k := 600000) (n := 7302250) (Nat.le_of_ble_eq_true rfl) (Nat.le_of_ble_eq_true rfl) ?_
      exact hE hw (congrArg Prod.fst (Option.some.inj h)) (congrArg Prod.snd (Option.some.inj h)) (Or.inl rfl) dL_law_114
    · replace h := it_t c14 h
      refine lv_aload_n hx hb dL_law_50 rfl (lv_at hl 1 rfl) ?_
      refine lv_bipush (v := 9) hx hb dL_law_51 (by decide) ?_
      refine lv_iconst (v := 0) hx hb dL_law_53 (by decide) ?_
      obtain ⟨⟨v15, σ16⟩, k17, h⟩ := it_b h
      refine kU_i (As := [.int (9 : Int32), .int (0 : Int32)]) (rest := []) (q := 8) hx_E h30 hI hw (c_X6_setCount l K ad hI30 (9 : Int32) (0 : Int32) σ13 k17) mi_X6_setCount mv_X6_setCount ml_L_121 (by decide) rfl rfl rfl ⟨⟨Nat.le_of_ble_eq_true rfl, Nat.le_of_ble_eq_true rfl⟩, rfl, rfl⟩ ⟨Nat.le_of_ble_eq_true rfl, Nat.le_of_ble_eq_true rfl⟩ hl.1 rfl (Nat.le_of_ble_eq_true rfl) dL_law_54 (fun H locs hw => ?_)
      obtain ⟨σ18, e_σ18, h⟩ := it_b h
      replace hw := PW_cast (Option.some.inj e_σ18) hw
      refine lv_bipush (v := -2) hx hb dL_law_57 (by decide) ?_
      refine lv_icmp_ne (tgt := 113) hx hb dL_law_59 (by decide) (fun c19 => ?_) (fun c19 => ?_)
      · replace h := it_f c19 h
        refine lv_iconst (v := 0) hx hb dL_law_113 (by decide) ?_
        refine W.widen (k := 600000) (n := 7302250) (Nat.le_of_ble_eq_true rfl) (Nat.le_of_ble_eq_true rfl) ?_
        exact hE hw (congrArg Prod.fst (Option.some.inj h)) (congrArg Prod.snd (Option.some.inj h)) (Or.inl rfl) dL_law_114
      · replace h := it_t c19 h
        refine lv_aload_n hx hb dL_law_62 rfl (lv_at hl 1 rfl) ?_
        refine lv_iconst (v := 0) hx hb dL_law_63 (by decide) ?_
        refine lv_iconst (v := 4) hx hb dL_law_64 (by decide) ?_
        obtain ⟨⟨v20, σ21⟩, k22, h⟩ := it_b h
        refine kU_i (As := [.int (0 : Int32), .int (4 : Int32)]) (rest := []) (q := 8) hx_E h30 hI hw (c_X6_setCount l K ad hI30 (0 : Int32) (4 : Int32) σ18 k22) mi_X6_setCount mv_X6_setCount ml_L_121 (by decide) rfl rfl rfl ⟨⟨Nat.le_of_ble_eq_true rfl, Nat.le_of_ble_eq_true rfl⟩, rfl, rfl⟩ ⟨Nat.le_of_ble_eq_true rfl, Nat.le_of_ble_eq_true rfl⟩ hl.1 rfl (Nat.le_of_ble_eq_true rfl) dL_law_65 (fun H locs hw => ?_)
        obtain ⟨σ23, e_σ23, h⟩ := it_b h
        replace hw := PW_cast (Option.some.inj e_σ23) hw
        refine lv_bipush (v := -2) hx hb dL_law_68 (by decide) ?_
        refine lv_icmp_ne (tgt := 113) hx hb dL_law_70 (by decide) (fun c24 => ?_) (fun c24 => ?_)
        · replace h := it_f c24 h
          refine lv_iconst (v := 0) hx hb dL_law_113 (by decide) ?_
          refine W.widen (k := 600000) (n := 7302250) (Nat.le_of_ble_eq_true rfl) (Nat.le_of_ble_eq_true rfl) ?_
          exact hE hw (congrArg Prod.fst (Option.some.inj h)) (congrArg Prod.snd (Option.some.inj h)) (Or.inl rfl) dL_law_114
        · replace h := it_t c24 h
          refine lv_aload_n hx hb dL_law_73 rfl (lv_at hl 1 rfl) ?_
          obtain ⟨⟨v25, σ26⟩, k27, h⟩ := it_b h
          refine kU_i (As := []) (rest := []) (q := 8) hx_E h30 hI hw (c_X6_setPuzzle l K ad hI30  σ23 k27) mi_X6_setPuzzle mv_X6_setPuzzle ml_L_78 (by decide) rfl rfl rfl ⟨⟨Nat.le_of_ble_eq_true rfl, Nat.le_of_ble_eq_true rfl⟩, rfl, rfl⟩ ⟨Nat.le_of_ble_eq_true rfl, Nat.le_of_ble_eq_true rfl⟩ hl.1 rfl (Nat.le_of_ble_eq_true rfl) dL_law_74 (fun H locs hw => ?_)
          obtain ⟨σ28, e_σ28, h⟩ := it_b h
          replace hw := PW_cast (Option.some.inj e_σ28) hw
          refine lv_bipush (v := -3) hx hb dL_law_77 (by decide) ?_
          refine lv_icmp_ne (tgt := 113) hx hb dL_law_79 (by decide) (fun c29 => ?_) (fun c29 => ?_)
          · replace h := it_f c29 h
            refine lv_iconst (v := 0) hx hb dL_law_113 (by decide) ?_
            refine W.widen (k := 600000) (n := 7302250) (Nat.le_of_ble_eq_true rfl) (Nat.le_of_ble_eq_true rfl) ?_
            exact hE hw (congrArg Prod.fst (Option.some.inj h)) (congrArg Prod.snd (Option.some.inj h)) (Or.inl rfl) dL_law_114
          · replace h := it_t c29 h
            refine lv_aload_n hx hb dL_law_82 rfl (lv_at hl 1 rfl) ?_
            obtain ⟨⟨v30, σ31⟩, k32, h⟩ := it_b h
            refine kU_i (As := []) (rest := []) (q := 8) hx_E h30 hI hw (c_X6_wipe l K ad hI30  σ28 k32) mi_X6_wipe mv_X6_wipe ml_L_124 (by decide) rfl rfl rfl ⟨⟨Nat.le_of_ble_eq_true rfl, Nat.le_of_ble_eq_true rfl⟩, rfl, rfl⟩ ⟨Nat.le_of_ble_eq_true rfl, Nat.le_of_ble_eq_true rfl⟩ hl.1 rfl (Nat.le_of_ble_eq_true rfl) dL_law_83 (fun H locs hw => ?_)
            obtain ⟨σ33, e_σ33, h⟩ := it_b h
            replace hw := PW_cast (Option.some.inj e_σ33) hw
            refine lv_if_ne (tgt := 113) hx hb dL_law_86 (by decide) (fun c34 => ?_) (fun c34 => ?_)
            · replace h := it_f c34 h
              refine lv_iconst (v := 0) hx hb dL_law_113 (by decide) ?_
              refine W.widen (k := 600000) (n := 7302250) (Nat.le_of_ble_eq_true rfl) (Nat.le_of_ble_eq_true rfl) ?_
              exact hE hw (congrArg Prod.fst (Option.some.inj h)) (congrArg Prod.snd (Option.some.inj h)) (Or.inl rfl) dL_law_114
            · replace h := it_t c34 h
              refine lv_aload_n hx hb dL_law_89 rfl (lv_at hl 1 rfl) ?_
              refine lv_aload_n hx hb dL_law_90 rfl (lv_at hl 2 rfl) ?_
              obtain ⟨v35, k36, h⟩ := it_b h
              refine kT_z (As := [.ref (ad 8), .ref (ad 30)]) (rest := []) hx_E hw (c_L_isTold l K 31 (Nat.le_refl 31) ad hI  σ33 k36) mi_L_isTold sm_L_isTold ml_L_127 rfl ⟨⟨Nat.le_of_ble_eq_true rfl, Nat.le_of_ble_eq_true rfl⟩, rfl, rfl⟩ ⟨Nat.le_of_ble_eq_true rfl, Nat.le_of_ble_eq_true rfl⟩ hl.1 rfl (Nat.le_of_ble_eq_true rfl) dL_law_91 (fun z37 H locs hw => ?_)
              refine lv_if_eq (tgt := 113) hx hb dL_law_94 (by decide) (fun c38 => ?_) (fun c38 => ?_)
              · replace h := it_t c38 h
                refine lv_iconst (v := 0) hx hb dL_law_113 (by decide) ?_
                refine W.widen (k := 600000) (n := 7302250) (Nat.le_of_ble_eq_true rfl) (Nat.le_of_ble_eq_true rfl) ?_
                exact hE hw (congrArg Prod.fst (Option.some.inj h)) (congrArg Prod.snd (Option.some.inj h)) (Or.inl rfl) dL_law_114
              · replace h := it_f c38 h
                refine lv_aload_n hx hb dL_law_97 rfl (lv_at hl 1 rfl) ?_
                refine lv_aload_n hx hb dL_law_98 rfl (lv_at hl 2 rfl) ?_
                obtain ⟨v39, k40, h⟩ := it_b h
                refine kT_z (As := [.ref (ad 8), .ref (ad 30)]) (rest := []) hx_E hw (c_L_areAt l K 31 (Nat.le_refl 31) ad hI  σ33 k40) mi_L_areAt sm_L_areAt ml_L_131 rfl ⟨⟨Nat.le_of_ble_eq_true rfl, Nat.le_of_ble_eq_true rfl⟩, rfl, rfl⟩ ⟨Nat.le_of_ble_eq_true rfl, Nat.le_of_ble_eq_true rfl⟩ hl.1 rfl (Nat.le_of_ble_eq_true rfl) dL_law_99 (fun z41 H locs hw => ?_)
                refine lv_if_eq (tgt := 113) hx hb dL_law_102 (by decide) (fun c42 => ?_) (fun c42 => ?_)
                · replace h := it_t c42 h
                  refine lv_iconst (v := 0) hx hb dL_law_113 (by decide) ?_
                  refine W.widen (k := 600000) (n := 7302250) (Nat.le_of_ble_eq_true rfl) (Nat.le_of_ble_eq_true rfl) ?_
                  exact hE hw (congrArg Prod.fst (Option.some.inj h)) (congrArg Prod.snd (Option.some.inj h)) (Or.inl rfl) dL_law_114
                · replace h := it_f c42 h
                  refine lv_aload_n hx hb dL_law_105 rfl (lv_at hl 1 rfl) ?_
                  refine lv_aload_n hx hb dL_law_106 rfl (lv_at hl 2 rfl) ?_
                  obtain ⟨⟨v43, σ44⟩, k45, h⟩ := it_b h
                  refine kA_z (As := [.ref (ad 8), .ref (ad 30)]) (rest := []) hx_E hw (c_L_areWays l K ad hI σ33 k45) mi_L_areWays sm_L_areWays ml_L_134 rfl ⟨⟨Nat.le_of_ble_eq_true rfl, Nat.le_of_ble_eq_true rfl⟩, rfl, rfl⟩ ⟨Nat.le_of_ble_eq_true rfl, Nat.le_of_ble_eq_true rfl⟩ hl.1 rfl (Nat.le_of_ble_eq_true rfl) dL_law_107 (fun z46 H locs hw => ?_)
                  refine lv_if_ne (tgt := 115) hx hb dL_law_110 (by decide) (fun c47 => ?_) (fun c47 => ?_)
                  · replace h := it_f c47 h
                    refine lv_iconst (v := 0) hx hb dL_law_115 (by decide) ?_
                    refine lv_istore_n (lv' := [(3, .int (0 : Int32)), (0, .ref b), (1, .ref (ad 8)), (2, .ref (ad 30))]) hx hb dL_law_116 rfl hl (by decide) rfl (fun ls hl => ?_)
                    obtain ⟨φ53, h9, h_φ53⟩ := it_b h
                    have hJ52 : ∀ (σ50 : vSt), .inr σ50 = φ53 → ∀ (H : Heap) (locs : List Loc) (ls : Array Slot), PW K 31 ad (cC K ad) A s.heap σ50 H locs → lv_has ls 8 [(1, .ref (ad 8))] → W p l e room_1 s m #[Value.ref b] below meth c H locs 700 50000 Q (F0 m 463 ls []) := by
                      intro σ50 e9 H locs ls hw hl
                      subst e9
                      replace h := h_φ53
                      refine lv_aload_n hx hb dL_law_463 rfl (lv_at hl 0 rfl) ?_
                      refine lv_bipush (v := 16) hx hb dL_law_464 (by decide) ?_
                      obtain ⟨v164, k165, h⟩ := it_b h
                      refine kUr_i (As := [.int (16 : Int32)]) (rest := []) (q := 8) hx_E h30 hI hw (c_X6_count l K ad hI30 (16 : Int32) σ50 k165) mi_X6_count mv_X6_count ml_L_71 (by decide) rfl rfl rfl ⟨⟨Nat.le_of_ble_eq_true rfl, Nat.le_of_ble_eq_true rfl⟩, rfl, rfl⟩ ⟨Nat.le_of_ble_eq_true rfl, Nat.le_of_ble_eq_true rfl⟩ hl.1 rfl (Nat.le_of_ble_eq_true rfl) dL_law_466 (fun H locs hw => ?_)
                      refine lv_bipush (v := -2) hx hb dL_law_469 (by decide) ?_
                      refine lv_icmp_ne (tgt := 499) hx hb dL_law_471 (by decide) (fun c166 => ?_) (fun c166 => ?_)
                      · replace h := it_f c166 h
                        refine lv_iconst (v := 0) hx hb dL_law_499 (by decide) ?_
                        refine W.widen (k := 600000) (n := 7302250) (Nat.le_of_ble_eq_true rfl) (Nat.le_of_ble_eq_true rfl) ?_
                        exact hE hw (congrArg Prod.fst (Option.some.inj h)) (congrArg Prod.snd (Option.some.inj h)) (Or.inl rfl) dL_law_500
                      · replace h := it_t c166 h
                        refine lv_aload_n hx hb dL_law_474 rfl (lv_at hl 0 rfl) ?_
                        refine lv_iconst (v := 4) hx hb dL_law_475 (by decide) ?_
                        obtain ⟨⟨v167, σ168⟩, k169, h⟩ := it_b h
                        refine kU_i (As := [.int (4 : Int32)]) (rest := []) (q := 8) hx_E h30 hI hw (c_X6_hint l K ad hI30 (4 : Int32) σ50 k169) mi_X6_hint mv_X6_hint ml_L_148 (by decide) rfl rfl rfl ⟨⟨Nat.le_of_ble_eq_true rfl, Nat.le_of_ble_eq_true rfl⟩, rfl, rfl⟩ ⟨Nat.le_of_ble_eq_true rfl, Nat.le_of_ble_eq_true rfl⟩ hl.1 rfl (Nat.le_of_ble_eq_true rfl) dL_law_476 (fun H locs hw => ?_)
                        obtain ⟨σ170, e_σ170, h⟩ := it_b h
                        replace hw := PW_cast (Option.some.inj e_σ170) hw
                        refine lv_bipush (v := -2) hx hb dL_law_479 (by decide) ?_
                        refine lv_icmp_ne (tgt := 499) hx hb dL_law_481 (by decide) (fun c171 => ?_) (fun c171 => ?_)
                        · replace h := it_f c171 h
                          refine lv_iconst (v := 0) hx hb dL_law_499 (by decide) ?_
                          refine W.widen (k := 600000) (n := 7302250) (Nat.le_of_ble_eq_true rfl) (Nat.le_of_ble_eq_true rfl) ?_
                          exact hE hw (congrArg Prod.fst (Option.some.inj h)) (congrArg Prod.snd (Option.some.inj h)) (Or.inl rfl) dL_law_500
                        · replace h := it_t c171 h
                          refine lv_aload_n hx hb dL_law_484 rfl (lv_at hl 0 rfl) ?_
                          refine lv_bipush (v := 8) hx hb dL_law_485 (by decide) ?_
                          obtain ⟨⟨v172, σ173⟩, k174, h⟩ := it_b h
                          refine kU_i (As := [.int (8 : Int32)]) (rest := []) (q := 8) hx_E h30 hI hw (c_X6_deduceAll l K ad hI30 (8 : Int32) σ170 k174) mi_X6_deduceAll mv_X6_deduceAll ml_L_151 (by decide) rfl rfl rfl ⟨⟨Nat.le_of_ble_eq_true rfl, Nat.le_of_ble_eq_true rfl⟩, rfl, rfl⟩ ⟨Nat.le_of_ble_eq_true rfl, Nat.le_of_ble_eq_true rfl⟩ hl.1 rfl (Nat.le_of_ble_eq_true rfl) dL_law_487 (fun H locs hw => ?_)
                          obtain ⟨σ175, e_σ175, h⟩ := it_b h
                          replace hw := PW_cast (Option.some.inj e_σ175) hw
                          refine lv_bipush (v := -2) hx hb dL_law_490 (by decide) ?_
                          refine lv_icmp_ne (tgt := 499) hx hb dL_law_492 (by decide) (fun c176 => ?_) (fun c176 => ?_)
                          · replace h := it_f c176 h
                            refine lv_iconst (v := 0) hx hb dL_law_499 (by decide) ?_
                            refine W.widen (k := 600000) (n := 7302250) (Nat.le_of_ble_eq_true rfl) (Nat.le_of_ble_eq_true rfl) ?_
                            exact hE hw (congrArg Prod.fst (Option.some.inj h)) (congrArg Prod.snd (Option.some.inj h)) (Or.inl rfl) dL_law_500
                          · replace h := it_t c176 h
                            refine lv_iconst (v := 1) hx hb dL_law_495 (by decide) ?_
                            refine lv_goto (tgt := 500) hx hb dL_law_496 (by decide) ?_
                            refine W.widen (k := 600000) (n := 7302250) (Nat.le_of_ble_eq_true rfl) (Nat.le_of_ble_eq_true rfl) ?_
                            exact hE hw (congrArg Prod.fst (Option.some.inj h)) (congrArg Prod.snd (Option.some.inj h)) (Or.inr rfl) dL_law_500
                    have hL51 : ∀ (n9 : Nat) (v48 : Int32) (σ49 : vSt), ∀ (c9 s9 : Nat), c9 + n9 ≤ 700 → s9 + 40 * n9 ≤ 50000 → ∀ (H : Heap) (locs : List Loc) (ls : Array Slot), f_L_law_117 L xs n9 v48 σ49 = some φ53 → PW K 31 ad (cC K ad) A s.heap σ49 H locs → lv_has ls 8 [(0, .ref b), (1, .ref (ad 8)), (2, .ref (ad 30)), (3, .int v48)] → W p l e room_1 s m #[Value.ref b] below meth c H locs c9 s9 Q (F0 m 117 ls []) := by
                      intro n9
                      induction n9 with
                      | zero => intro v48 σ49 c9 s9 hc9 hs9 H locs ls h hw hl; rw [f_L_law_117.eq_1] at h; exact it_n h
                      | succ n9 ih =>
                        intro v48 σ49 c9 s9 hc9 hs9 H locs ls h hw hl
                        rw [f_L_law_117.eq_2] at h
                        refine lv_iload_n hx hb dL_law_117 rfl (lv_at hl 3 rfl) ?_
                        refine lv_bipush (v := 22) hx hb dL_law_118 (by decide) ?_
                        refine lv_icmp_ge (tgt := 463) hx hb dL_law_120 (by decide) (fun c54 => ?_) (fun c54 => ?_)
                        · replace h := it_t c54 h
                          refine W.widen (k := 700) (n := 50000) (by omega) (by omega) ?_
                          have e9 := Option.some.inj h
                          subst e9
                          exact hJ52 _ rfl  H locs ls hw (lv_sub hl [1] rfl)
                        · replace h := it_f c54 h
                          refine lv_aload_n hx hb dL_law_123 rfl (lv_at hl 0 rfl) ?_
                          refine lv_iconst (v := 2) hx hb dL_law_124 (by decide) ?_
                          refine lv_iload_n hx hb dL_law_125 rfl (lv_at hl 3 rfl) ?_
                          refine lv_imul hx hb dL_law_126 ?_
                          obtain ⟨g55, h⟩ := it_g h
                          refine kCell (k := ((2 : Int32) * v48)) (rest := []) hx_E hw hX hbl hbA g55 ⟨Nat.le_trans (show c9 ≤ 1000 by omega) (Nat.le_of_ble_eq_true rfl), Nat.le_trans (show s9 ≤ 60000 by omega) (Nat.le_of_ble_eq_true rfl)⟩ hl.1 rfl (Nat.le_of_ble_eq_true rfl) dL_law_127 ⟨Nat.le_of_ble_eq_true rfl, Nat.le_of_ble_eq_true rfl⟩ (fun H locs hw => ?_)
                          obtain ⟨v56, e_v56, h⟩ := it_b h
                          refine lt_topi (Option.some.inj e_v56) ?_
                          refine lv_istore (lv' := [(4, .int v56), (0, .ref b), (1, .ref (ad 8)), (2, .ref (ad 30)), (3, .int v48)]) hx hb dL_law_130 hl (by decide) rfl (fun ls hl => ?_)
                          refine lv_iload hx hb dL_law_132 (lv_at hl 0 rfl) ?_
                          refine lv_bipush (v := 9) hx hb dL_law_134 (by decide) ?_
                          obtain ⟨v57, k58, h⟩ := it_b h
                          refine kS_i (As := [.int v56, .int (9 : Int32)]) (rest := []) hx_E hw (c_L_low l K v56 (9 : Int32) k58) mi_L_low sm_L_low ml_L_60 rfl ⟨⟨Nat.le_of_ble_eq_true rfl, Nat.le_of_ble_eq_true rfl⟩, rfl, rfl⟩ ⟨Nat.le_trans (show c9 ≤ 1000 by omega) (Nat.le_of_ble_eq_true rfl), Nat.le_trans (show s9 ≤ 60000 by omega) (Nat.le_of_ble_eq_true rfl)⟩ hl.1 rfl (Nat.le_of_ble_eq_true rfl) dL_law_136 (fun H locs hw => ?_)
                          obtain ⟨φ62, h9, h_φ62⟩ := it_b h
                          have hJ61 : ∀ (v59 : Int32) (σ60 : vSt), (v59, σ60) = φ62 → (v59 = 0 ∨ v59 = 1) → ∀ (H : Heap) (locs : List Loc) (ls : Array Slot), PW K 31 ad (cC K ad) A s.heap σ60 H locs → lv_has ls 8 [(0, .ref b), (1, .ref (ad 8)), (2, .ref (ad 30)), (3, .int v48), (5, .int v59)] → W p l e room_1 s m #[Value.ref b] below meth c H locs c9 s9 Q (F0 m 434 ls []) := by
                            intro v59 σ60 e9 z_v59 H locs ls hw hl
                            subst e9
                            replace h := h_φ62
                            refine lv_iload hx hb dL_law_434 (lv_at hl 4 rfl) ?_
                            refine lv_if_eq (tgt := 455) hx hb dL_law_436 (by decide) (fun c154 => ?_) (fun c154 => ?_)
                            · replace h := it_t c154 h
                              refine lv_iconst (v := 0) hx hb dL_law_455 (by decide) ?_
                              have e9 := Option.some.inj h
                              subst e9
                              replace h := h_φ53
                              refine W.widen (k := 600000) (n := 7302250) (Nat.le_trans (show c9 ≤ 1000 by omega) (Nat.le_of_ble_eq_true rfl)) (Nat.le_trans (show s9 ≤ 60000 by omega) (Nat.le_of_ble_eq_true rfl)) ?_
                              exact hE hw (congrArg Prod.fst (Option.some.inj h)) (congrArg Prod.snd (Option.some.inj h)) (Or.inl rfl) dL_law_456
                            · replace h := it_f c154 h
                              refine lv_aload_n hx hb dL_law_439 rfl (lv_at hl 1 rfl) ?_
                              refine lv_aload_n hx hb dL_law_440 rfl (lv_at hl 2 rfl) ?_
                              obtain ⟨v155, k156, h⟩ := it_b h
                              refine kT_z (As := [.ref (ad 8), .ref (ad 30)]) (rest := []) hx_E hw (c_L_isTold l K 31 (Nat.le_refl 31) ad hI  σ60 k156) mi_L_isTold sm_L_isTold ml_L_127 rfl ⟨⟨Nat.le_of_ble_eq_true rfl, Nat.le_of_ble_eq_true rfl⟩, rfl, rfl⟩ ⟨Nat.le_trans (show c9 ≤ 1000 by omega) (Nat.le_of_ble_eq_true rfl), Nat.le_trans (show s9 ≤ 60000 by omega) (Nat.le_of_ble_eq_true rfl)⟩ hl.1 rfl (Nat.le_of_ble_eq_true rfl) dL_law_441 (fun z157 H locs hw => ?_)
                              refine lv_if_eq (tgt := 455) hx hb dL_law_444 (by decide) (fun c158 => ?_) (fun c158 => ?_)
                              · replace h := it_t c158 h
                                refine lv_iconst (v := 0) hx hb dL_law_455 (by decide) ?_
                                have e9 := Option.some.inj h
                                subst e9
                                replace h := h_φ53
                                refine W.widen (k := 600000) (n := 7302250) (Nat.le_trans (show c9 ≤ 1000 by omega) (Nat.le_of_ble_eq_true rfl)) (Nat.le_trans (show s9 ≤ 60000 by omega) (Nat.le_of_ble_eq_true rfl)) ?_
                                exact hE hw (congrArg Prod.fst (Option.some.inj h)) (congrArg Prod.snd (Option.some.inj h)) (Or.inl rfl) dL_law_456
                              · replace h := it_f c158 h
                                refine lv_aload_n hx hb dL_law_447 rfl (lv_at hl 1 rfl) ?_
                                refine lv_aload_n hx hb dL_law_448 rfl (lv_at hl 2 rfl) ?_
                                obtain ⟨⟨v159, σ160⟩, k161, h⟩ := it_b h
                                refine kA_z (As := [.ref (ad 8), .ref (ad 30)]) (rest := []) hx_E hw (c_L_areWays l K ad hI σ60 k161) mi_L_areWays sm_L_areWays ml_L_134 rfl ⟨⟨Nat.le_of_ble_eq_true rfl, Nat.le_of_ble_eq_true rfl⟩, rfl, rfl⟩ ⟨Nat.le_trans (show (c9 + 1) ≤ 1000 by omega) (Nat.le_of_ble_eq_true rfl), Nat.le_trans (show (s9 + 40) ≤ 60000 by omega) (Nat.le_of_ble_eq_true rfl)⟩ hl.1 rfl (Nat.le_of_ble_eq_true rfl) dL_law_449 (fun z162 H locs hw => ?_)
                                refine lv_if_ne (tgt := 457) hx hb dL_law_452 (by decide) (fun c163 => ?_) (fun c163 => ?_)
                                · replace h := it_f c163 h
                                  refine lv_iinc (v := (v48 + 1)) (lv' := [(3, .int (v48 + 1)), (0, .ref b), (1, .ref (ad 8)), (2, .ref (ad 30)), (5, .int v59)]) hx hb dL_law_457 hl (k := 3) rfl rfl (by decide) rfl (fun ls hl => ?_)
                                  refine lv_goto (tgt := 117) hx hb dL_law_460 (by decide) ?_
                                  exact ih _ _ (c9 + 1) (s9 + 40) (by omega) (by omega)  H locs ls h hw (lv_sub hl [1, 2, 3, 0] rfl)
                                · replace h := it_t c163 h
                                  refine lv_iconst (v := 0) hx hb dL_law_455 (by decide) ?_
                                  have e9 := Option.some.inj h
                                  subst e9
                                  replace h := h_φ53
                                  refine W.widen (k := 600000) (n := 7302250) (Nat.le_trans (show (c9 + 1) ≤ 1000 by omega) (Nat.le_of_ble_eq_true rfl)) (Nat.le_trans (show (s9 + 40) ≤ 60000 by omega) (Nat.le_of_ble_eq_true rfl)) ?_
                                  exact hE hw (congrArg Prod.fst (Option.some.inj h)) (congrArg Prod.snd (Option.some.inj h)) (Or.inl rfl) dL_law_456
                          replace h := h9
                          by_cases c148 : v57 = 0
                          · replace h := it_t c148 h
                            refine lv_tableIn (off := 37) (tgt := 176) hx hb dL_law_139 (by rw [c148]; decide) (by rw [c148]; decide) (by rw [c148]; rfl) (by decide) ?_
                            refine lv_aload_n hx hb dL_law_176 rfl (lv_at hl 2 rfl) ?_
                            refine lv_aload_n hx hb dL_law_177 rfl (lv_at hl 3 rfl) ?_
                            refine lv_iload hx hb dL_law_178 (lv_at hl 0 rfl) ?_
                            refine lv_iconst (v := 4) hx hb dL_law_180 (by decide) ?_
                            refine lv_ishr hx hb dL_law_181 ?_
                            refine lv_aload_n hx hb dL_law_182 rfl (lv_at hl 1 rfl) ?_
                            refine lv_iconst (v := 2) hx hb dL_law_183 (by decide) ?_
                            refine lv_iload_n hx hb dL_law_184 rfl (lv_at hl 4 rfl) ?_
                            refine lv_imul hx hb dL_law_185 ?_
                            refine lv_iconst (v := 1) hx hb dL_law_186 (by decide) ?_
                            refine lv_iadd hx hb dL_law_187 ?_
                            obtain ⟨g63, h⟩ := it_g h
                            refine kCell (k := (((2 : Int32) * v48) + (1 : Int32))) (rest := [.int (v56 >>> ((4 : Int32) &&& 31)), .ref (ad 30), .ref (ad 8)]) hx_E hw hX hbl hbA g63 ⟨Nat.le_trans (show c9 ≤ 1000 by omega) (Nat.le_of_ble_eq_true rfl), Nat.le_trans (show s9 ≤ 60000 by omega) (Nat.le_of_ble_eq_true rfl)⟩ hl.1 rfl (Nat.le_of_ble_eq_true rfl) dL_law_188 ⟨Nat.le_of_ble_eq_true rfl, Nat.le_of_ble_eq_true rfl⟩ (fun H locs hw => ?_)
                            refine lv_iconst (v := 4) hx hb dL_law_191 (by decide) ?_
                            obtain ⟨⟨v64, σ65⟩, k66, h⟩ := it_b h
                            refine kT_z (As := [.ref (ad 8), .ref (ad 30), .int (v56 >>> ((4 : Int32) &&& 31)), .int (v_cell L xs (((2 : Int32) * v48) + (1 : Int32))), .int (4 : Int32)]) (rest := []) hx_E hw (c_L_sets l K 31 (Nat.le_refl 31) ad hI (v56 >>> ((4 : Int32) &&& 31)) (v_cell L xs (((2 : Int32) * v48) + (1 : Int32))) (4 : Int32) σ49 k66) mi_L_sets sm_L_sets ml_L_140 rfl ⟨⟨Nat.le_of_ble_eq_true rfl, Nat.le_of_ble_eq_true rfl⟩, rfl, rfl⟩ ⟨Nat.le_trans (show c9 ≤ 1000 by omega) (Nat.le_of_ble_eq_true rfl), Nat.le_trans (show s9 ≤ 60000 by omega) (Nat.le_of_ble_eq_true rfl)⟩ hl.1 rfl (Nat.le_of_ble_eq_true rfl) dL_law_192 (fun z67 H locs hw => ?_)
                            refine lv_if_eq (tgt := 210) hx hb dL_law_195 (by decide) (fun c68 => ?_) (fun c68 => ?_)
                            · replace h := it_t c68 h
                              refine lv_iconst (v := 0) hx hb dL_law_210 (by decide) ?_
                              refine lv_istore (lv' := [(5, .int (0 : Int32)), (4, .int v56), (0, .ref b), (1, .ref (ad 8)), (2, .ref (ad 30)), (3, .int v48)]) hx hb dL_law_211 hl (by decide) rfl (fun ls hl => ?_)
                              refine lv_goto (tgt := 434) hx hb dL_law_213 (by decide) ?_
                              have e9 := Option.some.inj h
                              subst e9
                              exact hJ61 _ _ rfl (Or.inl rfl) H locs ls hw (lv_sub hl [2, 3, 4, 5, 0] rfl)
                            · replace h := it_f c68 h
                              refine lv_aload_n hx hb dL_law_198 rfl (lv_at hl 2 rfl) ?_
                              refine lv_aload_n hx hb dL_law_199 rfl (lv_at hl 3 rfl) ?_
                              obtain ⟨v69, k70, h⟩ := it_b h
                              refine kT_z (As := [.ref (ad 8), .ref (ad 30)]) (rest := []) hx_E hw (c_L_areAt l K 31 (Nat.le_refl 31) ad hI  σ65 k70) mi_L_areAt sm_L_areAt ml_L_131 rfl ⟨⟨Nat.le_of_ble_eq_true rfl, Nat.le_of_ble_eq_true rfl⟩, rfl, rfl⟩ ⟨Nat.le_trans (show c9 ≤ 1000 by omega) (Nat.le_of_ble_eq_true rfl), Nat.le_trans (show s9 ≤ 60000 by omega) (Nat.le_of_ble_eq_true rfl)⟩ hl.1 rfl (Nat.le_of_ble_eq_true rfl) dL_law_200 (fun z71 H locs hw => ?_)
                              refine lv_if_eq (tgt := 210) hx hb dL_law_203 (by decide) (fun c72 => ?_) (fun c72 => ?_)
                              · replace h := it_t c72 h
                                refine lv_iconst (v := 0) hx hb dL_law_210 (by decide) ?_
                                refine lv_istore (lv' := [(5, .int (0 : Int32)), (4, .int v56), (0, .ref b), (1, .ref (ad 8)), (2, .ref (ad 30)), (3, .int v48)]) hx hb dL_law_211 hl (by decide) rfl (fun ls hl => ?_)
                                refine lv_goto (tgt := 434) hx hb dL_law_213 (by decide) ?_
                                have e9 := Option.some.inj h
                                subst e9
                                exact hJ61 _ _ rfl (Or.inl rfl) H locs ls hw (lv_sub hl [2, 3, 4, 5, 0] rfl)
                              · replace h := it_f c72 h
                                refine lv_iconst (v := 1) hx hb dL_law_206 (by decide) ?_
                                refine lv_goto (tgt := 211) hx hb dL_law_207 (by decide) ?_
                                refine lv_istore (lv' := [(5, .int (1 : Int32)), (4, .int v56), (0, .ref b), (1, .ref (ad 8)), (2, .ref (ad 30)), (3, .int v48)]) hx hb dL_law_211 hl (by decide) rfl (fun ls hl => ?_)
                                refine lv_goto (tgt := 434) hx hb dL_law_213 (by decide) ?_
                                have e9 := Option.some.inj h
                                subst e9
                                exact hJ61 _ _ rfl (Or.inr rfl) H locs ls hw (lv_sub hl [2, 3, 4, 5, 0] rfl)
                          replace h := it_f c148 h
                          by_cases c149 : v57 = 1
                          · replace h := it_t c149 h
                            refine lv_tableIn (off := 77) (tgt := 216) hx hb dL_law_139 (by rw [c149]; decide) (by rw [c149]; decide) (by rw [c149]; rfl) (by decide) ?_
                            refine lv_iload hx hb dL_law_216 (lv_at hl 0 rfl) ?_
                            refine lv_iconst (v := 4) hx hb dL_law_218 (by decide) ?_
                            refine lv_ishr hx hb dL_law_219 ?_
                            refine lv_aload_n hx hb dL_law_220 rfl (lv_at hl 3 rfl) ?_
                            refine lv_iconst (v := 0) hx hb dL_law_221 (by decide) ?_
                            refine acC_30 hx_E hw (Nat.le_refl 31) (by decide) rfl dL_law_222 ?_
                            refine lv_aload_n hx hb dL_law_223 rfl (lv_at hl 3 rfl) ?_
                            refine lv_iconst (v := 1) hx hb dL_law_224 (by decide) ?_
                            refine acC_30 hx_E hw (Nat.le_refl 31) (by decide) rfl dL_law_225 ?_
                            refine lv_imul hx hb dL_law_226 ?_
                            obtain ⟨v73, k74, h⟩ := it_b h
                            refine kS_i (As := [.int (v56 >>> ((4 : Int32) &&& 31)), .int ((gI σ49 30 0) * (gI σ49 30 1))]) (rest := []) hx_E hw (c_L_low l K (v56 >>> ((4 : Int32) &&& 31)) ((gI σ49 30 0) * (gI σ49 30 1)) k74) mi_L_low sm_L_low ml_L_60 rfl ⟨⟨Nat.le_of_ble_eq_true rfl, Nat.le_of_ble_eq_true rfl⟩, rfl, rfl⟩ ⟨Nat.le_trans (show c9 ≤ 1000 by omega) (Nat.le_of_ble_eq_true rfl), Nat.le_trans (show s9 ≤ 60000 by omega) (Nat.le_of_ble_eq_true rfl)⟩ hl.1 rfl (Nat.le_of_ble_eq_true rfl) dL_law_227 (fun H locs hw => ?_)
                            refine lv_istore (lv' := [(6, .int v73), (4, .int v56), (0, .ref b), (1, .ref (ad 8)), (2, .ref (ad 30)), (3, .int v48)]) hx hb dL_law_230 hl (by decide) rfl (fun ls hl => ?_)
                            refine lv_aload_n hx hb dL_law_232 rfl (lv_at hl 4 rfl) ?_
                            refine lv_iconst (v := 2) hx hb dL_law_233 (by decide) ?_
                            refine lv_iload hx hb dL_law_234 (lv_at hl 0 rfl) ?_
                            refine lv_iadd hx hb dL_law_236 ?_
                            obtain ⟨g75, h⟩ := it_g h
                            refine aC_30 hx_E hw (Nat.le_refl 31) g75 dL_law_237 ?_
                            obtain ⟨v76, e_v76, h⟩ := it_b h
                            refine lt_topi (Option.some.inj e_v76) ?_
                            refine lv_istore (lv' := [(7, .int v76), (6, .int v73), (4, .int v56), (0, .ref b), (1, .ref (ad 8)), (2, .ref (ad 30)), (3, .int v48)]) hx hb dL_law_238 hl (by decide) rfl (fun ls hl => ?_)
                            refine lv_aload_n hx hb dL_law_240 rfl (lv_at hl 5 rfl) ?_
                            refine lv_iconst (v := 2) hx hb dL_law_241 (by decide) ?_
                            refine lv_iload hx hb dL_law_242 (lv_at hl 1 rfl) ?_
                            refine lv_iadd hx hb dL_law_244 ?_
                            refine lv_iload hx hb dL_law_245 (lv_at hl 2 rfl) ?_
                            refine lv_bipush (v := 8) hx hb dL_law_247 (by decide) ?_
                            refine lv_ishr hx hb dL_law_249 ?_
                            refine lv_iconst (v := 5) hx hb dL_law_250 (by decide) ?_
                            obtain ⟨v77, k78, h⟩ := it_b h
                            refine kS_i (As := [.int (v56 >>> ((8 : Int32) &&& 31)), .int (5 : Int32)]) (rest := [.int ((2 : Int32) + v73), .ref (ad 30)]) hx_E hw (c_L_low l K (v56 >>> ((8 : Int32) &&& 31)) (5 : Int32) k78) mi_L_low sm_L_low ml_L_60 rfl ⟨⟨Nat.le_of_ble_eq_true rfl, Nat.le_of_ble_eq_true rfl⟩, rfl, rfl⟩ ⟨Nat.le_trans (show c9 ≤ 1000 by omega) (Nat.le_of_ble_eq_true rfl), Nat.le_trans (show s9 ≤ 60000 by omega) (Nat.le_of_ble_eq_true rfl)⟩ hl.1 rfl (Nat.le_of_ble_eq_true rfl) dL_law_251 (fun H locs hw => ?_)
                            refine lv_iconst (v := 1) hx hb dL_law_254 (by decide) ?_
                            refine lv_isub hx hb dL_law_255 ?_
                            obtain ⟨g79, h⟩ := it_g h
                            refine sC_30 hx_E hw (Nat.le_refl 31) g79 dL_law_256 (fun H locs hw => ?_)
                            refine lv_aload_n hx hb dL_law_257 rfl (lv_at hl 4 rfl) ?_
                            refine lv_iload hx hb dL_law_258 (lv_at hl 1 rfl) ?_
                            refine lv_aload_n hx hb dL_law_260 rfl (lv_at hl 5 rfl) ?_
                            refine lv_iconst (v := 2) hx hb dL_law_261 (by decide) ?_
                            refine lv_iload hx hb dL_law_262 (lv_at hl 1 rfl) ?_
                            refine lv_iadd hx hb dL_law_264 ?_
                            obtain ⟨g80, h⟩ := it_g h
                            refine aC_30 hx_E hw (Nat.le_refl 31) g80 dL_law_265 ?_
                            obtain ⟨⟨v81, σ82⟩, k83, h⟩ := it_b h
                            refine kU_i (As := [.int v73, .int (gI (sI σ49 30 ((2 : Int32) + v73).toNatClampNeg (v77 - (1 : Int32))) 30 ((2 : Int32) + v73).toNatClampNeg)]) (rest := []) (q := 8) hx_E h30 hI hw (c_X6_setCount l K ad hI30 v73 (gI (sI σ49 30 ((2 : Int32) + v73).toNatClampNeg (v77 - (1 : Int32))) 30 ((2 : Int32) + v73).toNatClampNeg) (sI σ49 30 ((2 : Int32) + v73).toNatClampNeg (v77 - (1 : Int32))) k83) mi_X6_setCount mv_X6_setCount ml_L_121 (by decide) rfl rfl rfl ⟨⟨Nat.le_of_ble_eq_true rfl, Nat.le_of_ble_eq_true rfl⟩, rfl, rfl⟩ ⟨Nat.le_trans (show c9 ≤ 1000 by omega) (Nat.le_of_ble_eq_true rfl), Nat.le_trans (show s9 ≤ 60000 by omega) (Nat.le_of_ble_eq_true rfl)⟩ hl.1 rfl (Nat.le_of_ble_eq_true rfl) dL_law_266 (fun H locs hw => ?_)
                            obtain ⟨σ84, e_σ84, h⟩ := it_b h
                            replace hw := PW_cast (Option.some.inj e_σ84) hw
                            refine lv_iload hx hb dL_law_269 (lv_at hl 0 rfl) ?_
                            refine lv_icmp_ne (tgt := 278) hx hb dL_law_271 (by decide) (fun c85 => ?_) (fun c85 => ?_)
                            · replace h := it_f c85 h
                              refine lv_iconst (v := 0) hx hb dL_law_278 (by decide) ?_
                              refine lv_istore (lv' := [(5, .int (0 : Int32)), (7, .int v76), (6, .int v73), (4, .int v56), (0, .ref b), (1, .ref (ad 8)), (2, .ref (ad 30)), (3, .int v48)]) hx hb dL_law_279 hl (by decide) rfl (fun ls hl => ?_)
                              refine lv_goto (tgt := 434) hx hb dL_law_281 (by decide) ?_
                              have e9 := Option.some.inj h
                              subst e9
                              exact hJ61 _ _ rfl (Or.inl rfl) H locs ls hw (lv_sub hl [4, 5, 6, 7, 0] rfl)
                            · replace h := it_t c85 h
                              refine lv_iconst (v := 1) hx hb dL_law_274 (by decide) ?_
                              refine lv_goto (tgt := 279) hx hb dL_law_275 (by decide) ?_
                              refine lv_istore (lv' := [(5, .int (1 : Int32)), (7, .int v76), (6, .int v73), (4, .int v56), (0, .ref b), (1, .ref (ad 8)), (2, .ref (ad 30)), (3, .int v48)]) hx hb dL_law_279 hl (by decide) rfl (fun ls hl => ?_)
                              refine lv_goto (tgt := 434) hx hb dL_law_281 (by decide) ?_
                              have e9 := Option.some.inj h
                              subst e9
                              exact hJ61 _ _ rfl (Or.inr rfl) H locs ls hw (lv_sub hl [4, 5, 6, 7, 0] rfl)
                          replace h := it_f c149 h
                          by_cases c150 : v57 = 2
                          · replace h := it_t c150 h
                            refine lv_tableIn (off := 145) (tgt := 284) hx hb dL_law_139 (by rw [c150]; decide) (by rw [c150]; decide) (by rw [c150]; rfl) (by decide) ?_
                            refine lv_aload_n hx hb dL_law_284 rfl (lv_at hl 2 rfl) ?_
                            refine lv_aload_n hx hb dL_law_285 rfl (lv_at hl 3 rfl) ?_
                            refine lv_iload hx hb dL_law_286 (lv_at hl 0 rfl) ?_
                            refine lv_iconst (v := 4) hx hb dL_law_288 (by decide) ?_
                            refine lv_ishr hx hb dL_law_289 ?_
                            refine lv_aload_n hx hb dL_law_290 rfl (lv_at hl 3 rfl) ?_
                            refine lv_iconst (v := 0) hx hb dL_law_291 (by decide) ?_
                            refine acC_30 hx_E hw (Nat.le_refl 31) (by decide) rfl dL_law_292 ?_
                            refine lv_aload_n hx hb dL_law_293 rfl (lv_at hl 3 rfl) ?_
                            refine lv_iconst (v := 1) hx hb dL_law_294 (by decide) ?_
                            refine acC_30 hx_E hw (Nat.le_refl 31) (by decide) rfl dL_law_295 ?_
                            refine lv_imul hx hb dL_law_296 ?_
                            obtain ⟨v86, k87, h⟩ := it_b h
                            refine kS_i (As := [.int (v56 >>> ((4 : Int32) &&& 31)), .int ((gI σ49 30 0) * (gI σ49 30 1))]) (rest := [.ref (ad 30), .ref (ad 8)]) hx_E hw (c_L_low l K (v56 >>> ((4 : Int32) &&& 31)) ((gI σ49 30 0) * (gI σ49 30 1)) k87) mi_L_low sm_L_low ml_L_60 rfl ⟨⟨Nat.le_of_ble_eq_true rfl, Nat.le_of_ble_eq_true rfl⟩, rfl, rfl⟩ ⟨Nat.le_trans (show c9 ≤ 1000 by omega) (Nat.le_of_ble_eq_true rfl), Nat.le_trans (show s9 ≤ 60000 by omega) (Nat.le_of_ble_eq_true rfl)⟩ hl.1 rfl (Nat.le_of_ble_eq_true rfl) dL_law_297 (fun H locs hw => ?_)
                            obtain ⟨⟨v88, σ89⟩, k90, h⟩ := it_b h
                            refine kT_z (As := [.ref (ad 8), .ref (ad 30), .int v86]) (rest := []) hx_E hw (c_L_borders l K 31 (Nat.le_refl 31) ad hI v86 σ49 k90) mi_L_borders sm_L_borders ml_L_144 rfl ⟨⟨Nat.le_of_ble_eq_true rfl, Nat.le_of_ble_eq_true rfl⟩, rfl, rfl⟩ ⟨Nat.le_trans (show c9 ≤ 1000 by omega) (Nat.le_of_ble_eq_true rfl), Nat.le_trans (show s9 ≤ 60000 by omega) (Nat.le_of_ble_eq_true rfl)⟩ hl.1 rfl (Nat.le_of_ble_eq_true rfl) dL_law_300 (fun z91 H locs hw => ?_)
                            refine lv_istore (lv' := [(5, .int v88), (4, .int v56), (0, .ref b), (1, .ref (ad 8)), (2, .ref (ad 30)), (3, .int v48)]) hx hb dL_law_303 hl (by decide) rfl (fun ls hl => ?_)
                            refine lv_goto (tgt := 434) hx hb dL_law_305 (by decide) ?_
                            have e9 := Option.some.inj h
                            subst e9
                            exact hJ61 _ _ rfl z91 H locs ls hw (lv_sub hl [2, 3, 4, 5, 0] rfl)
                          replace h := it_f c150 h
                          by_cases c151 : v57 = 3
                          · replace h := it_t c151 h
                            refine lv_tableIn (off := 145) (tgt := 284) hx hb dL_law_139 (by rw [c151]; decide) (by rw [c151]; decide) (by rw [c151]; rfl) (by decide) ?_
                            refine lv_aload_n hx hb dL_law_284 rfl (lv_at hl 2 rfl) ?_
                            refine lv_aload_n hx hb dL_law_285 rfl (lv_at hl 3 rfl) ?_
                            refine lv_iload hx hb dL_law_286 (lv_at hl 0 rfl) ?_
                            refine lv_iconst (v := 4) hx hb dL_law_288 (by decide) ?_
                            refine lv_ishr hx hb dL_law_289 ?_
                            refine lv_aload_n hx hb dL_law_290 rfl (lv_at hl 3 rfl) ?_
                            refine lv_iconst (v := 0) hx hb dL_law_291 (by decide) ?_
                            refine acC_30 hx_E hw (Nat.le_refl 31) (by decide) rfl dL_law_292 ?_
                            refine lv_aload_n hx hb dL_law_293 rfl (lv_at hl 3 rfl) ?_
                            refine lv_iconst (v := 1) hx hb dL_law_294 (by decide) ?_
                            refine acC_30 hx_E hw (Nat.le_refl 31) (by decide) rfl dL_law_295 ?_
                            refine lv_imul hx hb dL_law_296 ?_
                            obtain ⟨v92, k93, h⟩ := it_b h
                            refine kS_i (As := [.int (v56 >>> ((4 : Int32) &&& 31)), .int ((gI σ49 30 0) * (gI σ49 30 1))]) (rest := [.ref (ad 30), .ref (ad 8)]) hx_E hw (c_L_low l K (v56 >>> ((4 : Int32) &&& 31)) ((gI σ49 30 0) * (gI σ49 30 1)) k93) mi_L_low sm_L_low ml_L_60 rfl ⟨⟨Nat.le_of_ble_eq_true rfl, Nat.le_of_ble_eq_true rfl⟩, rfl, rfl⟩ ⟨Nat.le_trans (show c9 ≤ 1000 by omega) (Nat.le_of_ble_eq_true rfl), Nat.le_trans (show s9 ≤ 60000 by omega) (Nat.le_of_ble_eq_true rfl)⟩ hl.1 rfl (Nat.le_of_ble_eq_true rfl) dL_law_297 (fun H locs hw => ?_)
                            obtain ⟨⟨v94, σ95⟩, k96, h⟩ := it_b h
                            refine kT_z (As := [.ref (ad 8), .ref (ad 30), .int v92]) (rest := []) hx_E hw (c_L_borders l K 31 (Nat.le_refl 31) ad hI v92 σ49 k96) mi_L_borders sm_L_borders ml_L_144 rfl ⟨⟨Nat.le_of_ble_eq_true rfl, Nat.le_of_ble_eq_true rfl⟩, rfl, rfl⟩ ⟨Nat.le_trans (show c9 ≤ 1000 by omega) (Nat.le_of_ble_eq_true rfl), Nat.le_trans (show s9 ≤ 60000 by omega) (Nat.le_of_ble_eq_true rfl)⟩ hl.1 rfl (Nat.le_of_ble_eq_true rfl) dL_law_300 (fun z97 H locs hw => ?_)
                            refine lv_istore (lv' := [(5, .int v94), (4, .int v56), (0, .ref b), (1, .ref (ad 8)), (2, .ref (ad 30)), (3, .int v48)]) hx hb dL_law_303 hl (by decide) rfl (fun ls hl => ?_)
                            refine lv_goto (tgt := 434) hx hb dL_law_305 (by decide) ?_
                            have e9 := Option.some.inj h
                            subst e9
                            exact hJ61 _ _ rfl z97 H locs ls hw (lv_sub hl [2, 3, 4, 5, 0] rfl)
                          replace h := it_f c151 h
                          by_cases c152 : v57 = 4
                          · replace h := it_t c152 h
                            refine lv_tableIn (off := 145) (tgt := 284) hx hb dL_law_139 (by rw [c152]; decide) (by rw [c152]; decide) (by rw [c152]; rfl) (by decide) ?_
                            refine lv_aload_n hx hb dL_law_284 rfl (lv_at hl 2 rfl) ?_
                            refine lv_aload_n hx hb dL_law_285 rfl (lv_at hl 3 rfl) ?_
                            refine lv_iload hx hb dL_law_286 (lv_at hl 0 rfl) ?_
                            refine lv_iconst (v := 4) hx hb dL_law_288 (by decide) ?_
                            refine lv_ishr hx hb dL_law_289 ?_
                            refine lv_aload_n hx hb dL_law_290 rfl (lv_at hl 3 rfl) ?_
                            refine lv_iconst (v := 0) hx hb dL_law_291 (by decide) ?_
                            refine acC_30 hx_E hw (Nat.le_refl 31) (by decide) rfl dL_law_292 ?_
                            refine lv_aload_n hx hb dL_law_293 rfl (lv_at hl 3 rfl) ?_
                            refine lv_iconst (v := 1) hx hb dL_law_294 (by decide) ?_
                            refine acC_30 hx_E hw (Nat.le_refl 31) (by decide) rfl dL_law_295 ?_
                            refine lv_imul hx hb dL_law_296 ?_
                            obtain ⟨v98, k99, h⟩ := it_b h
                            refine kS_i (As := [.int (v56 >>> ((4 : Int32) &&& 31)), .int ((gI σ49 30 0) * (gI σ49 30 1))]) (rest := [.ref (ad 30), .ref (ad 8)]) hx_E hw (c_L_low l K (v56 >>> ((4 : Int32) &&& 31)) ((gI σ49 30 0) * (gI σ49 30 1)) k99) mi_L_low sm_L_low ml_L_60 rfl ⟨⟨Nat.le_of_ble_eq_true rfl, Nat.le_of_ble_eq_true rfl⟩, rfl, rfl⟩ ⟨Nat.le_trans (show c9 ≤ 1000 by omega) (Nat.le_of_ble_eq_true rfl), Nat.le_trans (show s9 ≤ 60000 by omega) (Nat.le_of_ble_eq_true rfl)⟩ hl.1 rfl (Nat.le_of_ble_eq_true rfl) dL_law_297 (fun H locs hw => ?_)
                            obtain ⟨⟨v100, σ101⟩, k102, h⟩ := it_b h
                            refine kT_z (As := [.ref (ad 8), .ref (ad 30), .int v98]) (rest := []) hx_E hw (c_L_borders l K 31 (Nat.le_refl 31) ad hI v98 σ49 k102) mi_L_borders sm_L_borders ml_L_144 rfl ⟨⟨Nat.le_of_ble_eq_true rfl, Nat.le_of_ble_eq_true rfl⟩, rfl, rfl⟩ ⟨Nat.le_trans (show c9 ≤ 1000 by omega) (Nat.le_of_ble_eq_true rfl), Nat.le_trans (show s9 ≤ 60000 by omega) (Nat.le_of_ble_eq_true rfl)⟩ hl.1 rfl (Nat.le_of_ble_eq_true rfl) dL_law_300 (fun z103 H locs hw => ?_)
                            refine lv_istore (lv' := [(5, .int v100), (4, .int v56), (0, .ref b), (1, .ref (ad 8)), (2, .ref (ad 30)), (3, .int v48)]) hx hb dL_law_303 hl (by decide) rfl (fun ls hl => ?_)
                            refine lv_goto (tgt := 434) hx hb dL_law_305 (by decide) ?_
                            have e9 := Option.some.inj h
                            subst e9
                            exact hJ61 _ _ rfl z103 H locs ls hw (lv_sub hl [2, 3, 4, 5, 0] rfl)
                          replace h := it_f c152 h
                          by_cases c153 : v57 = 5
                          · replace h := it_t c153 h
                            refine lv_tableIn (off := 169) (tgt := 308) hx hb dL_law_139 (by rw [c153]; decide) (by rw [c153]; decide) (by rw [c153]; rfl) (by decide) ?_
                            refine lv_iload hx hb dL_law_308 (lv_at hl 0 rfl) ?_
                            refine lv_iconst (v := 4) hx hb dL_law_310 (by decide) ?_
                            refine lv_ishr hx hb dL_law_311 ?_
                            refine lv_iconst (v := 4) hx hb dL_law_312 (by decide) ?_
                            obtain ⟨v104, k105, h⟩ := it_b h
                            refine kS_i (As := [.int (v56 >>> ((4 : Int32) &&& 31)), .int (4 : Int32)]) (rest := []) hx_E hw (c_L_low l K (v56 >>> ((4 : Int32) &&& 31)) (4 : Int32) k105) mi_L_low sm_L_low ml_L_60 rfl ⟨⟨Nat.le_of_ble_eq_true rfl, Nat.le_of_ble_eq_true rfl⟩, rfl, rfl⟩ ⟨Nat.le_trans (show c9 ≤ 1000 by omega) (Nat.le_of_ble_eq_true rfl), Nat.le_trans (show s9 ≤ 60000 by omega) (Nat.le_of_ble_eq_true rfl)⟩ hl.1 rfl (Nat.le_of_ble_eq_true rfl) dL_law_313 (fun H locs hw => ?_)
                            refine lv_if_ne (tgt := 401) hx hb dL_law_316 (by decide) (fun c106 => ?_) (fun c106 => ?_)
                            · replace h := it_f c106 h
                              refine lv_iconst (v := 1) hx hb dL_law_401 (by decide) ?_
                              refine lv_istore (lv' := [(5, .int (1 : Int32)), (4, .int v56), (0, .ref b), (1, .ref (ad 8)), (2, .ref (ad 30)), (3, .int v48)]) hx hb dL_law_402 hl (by decide) rfl (fun ls hl => ?_)
                              refine lv_goto (tgt := 434) hx hb dL_law_404 (by decide) ?_
                              have e9 := Option.some.inj h
                              subst e9
                              exact hJ61 _ _ rfl (Or.inr rfl) H locs ls hw (lv_sub hl [2, 3, 4, 5, 0] rfl)
                            · replace h := it_t c106 h
                              refine lv_aload_n hx hb dL_law_319 rfl (lv_at hl 3 rfl) ?_
                              obtain ⟨v107, k108, h⟩ := it_b h
                              refine kT_i (As := [.ref (ad 30)]) (rest := []) hx_E hw (c_L_edges l K 31 (Nat.le_refl 31) ad hI  σ49 k108) mi_L_edges sm_L_edges ml_L_19 rfl ⟨⟨Nat.le_of_ble_eq_true rfl, Nat.le_of_ble_eq_true rfl⟩, rfl, rfl⟩ ⟨Nat.le_trans (show c9 ≤ 1000 by omega) (Nat.le_of_ble_eq_true rfl), Nat.le_trans (show s9 ≤ 60000 by omega) (Nat.le_of_ble_eq_true rfl)⟩ hl.1 rfl (Nat.le_of_ble_eq_true rfl) dL_law_320 (fun H locs hw => ?_)
                              refine lv_aload_n hx hb dL_law_323 rfl (lv_at hl 3 rfl) ?_
                              obtain ⟨v109, k110, h⟩ := it_b h
                              refine kT_i (As := [.ref (ad 30)]) (rest := [.int v107]) hx_E hw (c_L_edges l K 31 (Nat.le_refl 31) ad hI  σ49 k110) mi_L_edges sm_L_edges ml_L_19 rfl ⟨⟨Nat.le_of_ble_eq_true rfl, Nat.le_of_ble_eq_true rfl⟩, rfl, rfl⟩ ⟨Nat.le_trans (show c9 ≤ 1000 by omega) (Nat.le_of_ble_eq_true rfl), Nat.le_trans (show s9 ≤ 60000 by omega) (Nat.le_of_ble_eq_true rfl)⟩ hl.1 rfl (Nat.le_of_ble_eq_true rfl) dL_law_324 (fun H locs hw => ?_)
                              refine lv_aload_n hx hb dL_law_327 rfl (lv_at hl 3 rfl) ?_
                              obtain ⟨v111, k112, h⟩ := it_b h
                              refine kT_i (As := [.ref (ad 30)]) (rest := [.int v109, .int v107]) hx_E hw (c_L_drawn l K 31 (Nat.le_refl 31) ad hI  σ49 k112) mi_L_drawn sm_L_drawn ml_L_51 rfl ⟨⟨Nat.le_of_ble_eq_true rfl, Nat.le_of_ble_eq_true rfl⟩, rfl, rfl⟩ ⟨Nat.le_trans (show c9 ≤ 1000 by omega) (Nat.le_of_ble_eq_true rfl), Nat.le_trans (show s9 ≤ 60000 by omega) (Nat.le_of_ble_eq_true rfl)⟩ hl.1 rfl (Nat.le_of_ble_eq_true rfl) dL_law_328 (fun H locs hw => ?_)
                              refine lv_isub hx hb dL_law_331 ?_
                              refine lv_isub hx hb dL_law_332 ?_
                              obtain ⟨v113, e_v113, h⟩ := it_b h
                              refine lt_topi (Option.some.inj e_v113) ?_
                              refine lv_istore (lv' := [(6, .int v113), (4, .int v56), (0, .ref b), (1, .ref (ad 8)), (2, .ref (ad 30)), (3, .int v48)]) hx hb dL_law_333 hl (by decide) rfl (fun ls hl => ?_)
                              refine lv_iconst (v := 0) hx hb dL_law_335 (by decide) ?_
                              refine lv_istore (lv' := [(7, .int (0 : Int32)), (6, .int v113), (4, .int v56), (0, .ref b), (1, .ref (ad 8)), (2, .ref (ad 30)), (3, .int v48)]) hx hb dL_law_336 hl (by decide) rfl (fun ls hl => ?_)
                              obtain ⟨φ122, h9, h_φ122⟩ := it_b h
                              have hJ121 : ∀ (v117 : Int32) (σ118 : vSt), (v117, σ118) = φ122 → ∀ (H : Heap) (locs : List Loc) (ls : Array Slot), PW K 31 ad (cC K ad) A s.heap σ118 H locs → lv_has ls 8 [(0, .ref b), (1, .ref (ad 8)), (2, .ref (ad 30)), (3, .int v48), (6, .int v117)] → W p l e room_1 s m #[Value.ref b] below meth c H locs c9 s9 Q (F0 m 382 ls []) := by
                                intro v117 σ118 e9 H locs ls hw hl
                                subst e9
                                replace h := h_φ122
                                refine lv_aload_n hx hb dL_law_382 rfl (lv_at hl 1 rfl) ?_
                                obtain ⟨⟨v133, σ134⟩, k135, h⟩ := it_b h
                                refine kU_i (As := []) (rest := []) (q := 8) hx_E h30 hI hw (c_X6_wipe l K ad hI30  σ118 k135) mi_X6_wipe mv_X6_wipe ml_L_124 (by decide) rfl rfl rfl ⟨⟨Nat.le_of_ble_eq_true rfl, Nat.le_of_ble_eq_true rfl⟩, rfl, rfl⟩ ⟨Nat.le_trans (show c9 ≤ 1000 by omega) (Nat.le_of_ble_eq_true rfl), Nat.le_trans (show s9 ≤ 60000 by omega) (Nat.le_of_ble_eq_true rfl)⟩ hl.1 rfl (Nat.le_of_ble_eq_true rfl) dL_law_383 (fun H locs hw => ?_)
                                obtain ⟨σ136, e_σ136, h⟩ := it_b h
                                replace hw := PW_cast (Option.some.inj e_σ136) hw
                                refine lv_iload hx hb dL_law_386 (lv_at hl 4 rfl) ?_
                                refine lv_icmp_ne (tgt := 395) hx hb dL_law_388 (by decide) (fun c137 => ?_) (fun c137 => ?_)
                                · replace h := it_f c137 h
                                  refine lv_iconst (v := 0) hx hb dL_law_395 (by decide) ?_
                                  refine lv_istore (lv' := [(5, .int (0 : Int32)), (0, .ref b), (1, .ref (ad 8)), (2, .ref (ad 30)), (3, .int v48), (6, .int v117)]) hx hb dL_law_396 hl (by decide) rfl (fun ls hl => ?_)
                                  refine lv_goto (tgt := 434) hx hb dL_law_398 (by decide) ?_
                                  have e9 := Option.some.inj h
                                  subst e9
                                  exact hJ61 _ _ rfl (Or.inl rfl) H locs ls hw (lv_sub hl [1, 2, 3, 4, 0] rfl)
                                · replace h := it_t c137 h
                                  refine lv_iconst (v := 1) hx hb dL_law_391 (by decide) ?_
                                  refine lv_goto (tgt := 396) hx hb dL_law_392 (by decide) ?_
                                  refine lv_istore (lv' := [(5, .int (1 : Int32)), (0, .ref b), (1, .ref (ad 8)), (2, .ref (ad 30)), (3, .int v48), (6, .int v117)]) hx hb dL_law_396 hl (by decide) rfl (fun ls hl => ?_)
                                  refine lv_goto (tgt := 434) hx hb dL_law_398 (by decide) ?_
                                  have e9 := Option.some.inj h
                                  subst e9
                                  exact hJ61 _ _ rfl (Or.inr rfl) H locs ls hw (lv_sub hl [1, 2, 3, 4, 0] rfl)
                              have hL120 : ∀ (n9 : Nat) (v114 : Int32) (v115 : Int32) (σ116 : vSt), ∀ (H : Heap) (locs : List Loc) (ls : Array Slot), f_L_law_338x119  n9 v114 v115 σ116 = some φ122 → PW K 31 ad (cC K ad) A s.heap σ116 H locs → lv_has ls 8 [(0, .ref b), (1, .ref (ad 8)), (2, .ref (ad 30)), (3, .int v48), (6, .int v114), (7, .int v115)] → W p l e room_1 s m #[Value.ref b] below meth c H locs c9 s9 Q (F0 m 338 ls []) := by
                                intro n9
                                induction n9 with
                                | zero => intro v114 v115 σ116 H locs ls h hw hl; rw [f_L_law_338x119.eq_1] at h; exact it_n h
                                | succ n9 ih =>
                                  intro v114 v115 σ116 H locs ls h hw hl
                                  rw [f_L_law_338x119.eq_2] at h
                                  refine lv_iload hx hb dL_law_338 (lv_at hl 5 rfl) ?_
                                  refine lv_aload_n hx hb dL_law_340 rfl (lv_at hl 2 rfl) ?_
                                  obtain ⟨v123, k124, h⟩ := it_b h
                                  refine kT_i (As := [.ref (ad 30)]) (rest := [.int v115]) hx_E hw (c_L_edges l K 31 (Nat.le_refl 31) ad hI  σ116 k124) mi_L_edges sm_L_edges ml_L_19 rfl ⟨⟨Nat.le_of_ble_eq_true rfl, Nat.le_of_ble_eq_true rfl⟩, rfl, rfl⟩ ⟨Nat.le_trans (show c9 ≤ 1000 by omega) (Nat.le_of_ble_eq_true rfl), Nat.le_trans (show s9 ≤ 60000 by omega) (Nat.le_of_ble_eq_true rfl)⟩ hl.1 rfl (Nat.le_of_ble_eq_true rfl) dL_law_341 (fun H locs hw => ?_)
                                  refine lv_icmp_ge (tgt := 382) hx hb dL_law_344 (by decide) (fun c125 => ?_) (fun c125 => ?_)
                                  · replace h := it_t c125 h
                                    have e9 := Option.some.inj h
                                    subst e9
                                    exact hJ121 _ _ rfl  H locs ls hw (lv_sub hl [0, 1, 2, 3, 4] rfl)
                                  · replace h := it_f c125 h
                                    refine lv_iload hx hb dL_law_347 (lv_at hl 4 rfl) ?_
                                    refine lv_aload_n hx hb dL_law_349 rfl (lv_at hl 2 rfl) ?_
                                    refine lv_bipush (v := 18) hx hb dL_law_350 (by decide) ?_
                                    refine lv_iload hx hb dL_law_352 (lv_at hl 5 rfl) ?_
                                    refine lv_iadd hx hb dL_law_354 ?_
                                    obtain ⟨g126, h⟩ := it_g h
                                    refine aC_30 hx_E hw (Nat.le_refl 31) g126 dL_law_355 ?_
                                    refine lv_iconst (v := 2) hx hb dL_law_356 (by decide) ?_
                                    obtain ⟨φ130, h9, h_φ130⟩ := it_b h
                                    have hJ129 : ∀ (v128 : Int32), v128 = φ130 → (v128 = 0 ∨ v128 = 1) → ∀ (H : Heap) (locs : List Loc) (ls : Array Slot), PW K 31 ad (cC K ad) A s.heap σ116 H locs → lv_has ls 8 [(0, .ref b), (1, .ref (ad 8)), (2, .ref (ad 30)), (3, .int v48), (7, .int v115)] → W p l e room_1 s m #[Value.ref b] below meth c H locs c9 s9 Q (F0 m 365 ls [.int v128, .int v114]) := by
                                      intro v128 e9 z_v128 H locs ls hw hl
                                      subst e9
                                      replace h := h_φ130
                                      refine lv_iadd hx hb dL_law_365 ?_
                                      obtain ⟨v131, e_v131, h⟩ := it_b h
                                      refine lt_topi (Option.some.inj e_v131) ?_
                                      refine lv_istore (lv' := [(6, .int v131), (0, .ref b), (1, .ref (ad 8)), (2, .ref (ad 30)), (3, .int v48), (7, .int v115)]) hx hb dL_law_366 hl (by decide) rfl (fun ls hl => ?_)
                                      refine lv_aload_n hx hb dL_law_368 rfl (lv_at hl 3 rfl) ?_
                                      refine lv_bipush (v := 18) hx hb dL_law_369 (by decide) ?_
                                      refine lv_iload hx hb dL_law_371 (lv_at hl 5 rfl) ?_
                                      refine lv_iadd hx hb dL_law_373 ?_
                                      refine lv_iconst (v := 0) hx hb dL_law_374 (by decide) ?_
                                      obtain ⟨g132, h⟩ := it_g h
                                      refine sC_30 hx_E hw (Nat.le_refl 31) g132 dL_law_375 (fun H locs hw => ?_)
                                      refine lv_iinc (v := (v115 + 1)) (lv' := [(7, .int (v115 + 1)), (6, .int v131), (0, .ref b), (1, .ref (ad 8)), (2, .ref (ad 30)), (3, .int v48)]) hx hb dL_law_376 hl (k := 5) rfl rfl (by decide) rfl (fun ls hl => ?_)
                                      refine lv_goto (tgt := 338) hx hb dL_law_379 (by decide) ?_
                                      exact ih _ _ _   H locs ls h hw (lv_sub hl [2, 3, 4, 5, 1, 0] rfl)
                                    replace h := h9
                                    refine lv_icmp_ne (tgt := 364) hx hb dL_law_357 (by decide) (fun c127 => ?_) (fun c127 => ?_)
                                    · replace h := it_f c127 h
                                      refine lv_iconst (v := 0) hx hb dL_law_364 (by decide) ?_
                                      have e9 := Option.some.inj h
                                      subst e9
                                      exact hJ129 _ rfl (Or.inl rfl) H locs ls hw (lv_sub hl [0, 1, 2, 3, 5] rfl)
                                    · replace h := it_t c127 h
                                      refine lv_iconst (v := 1) hx hb dL_law_360 (by decide) ?_
                                      refine lv_goto (tgt := 365) hx hb dL_law_361 (by decide) ?_
                                      have e9 := Option.some.inj h
                                      subst e9
                                      exact hJ129 _ rfl (Or.inr rfl) H locs ls hw (lv_sub hl [0, 1, 2, 3, 5] rfl)
                              exact hL120 600 _ _ _   H locs ls h9 hw (lv_sub hl [3, 4, 5, 6, 1, 0] rfl)
                          replace h := it_f c153 h
                          refine lv_tableOut (tgt := 407) hx hb dL_law_139 (sw_out0_5 c148 c149 c150 c151 c152 c153) (by decide) ?_
                          refine lv_aload_n hx hb dL_law_407 rfl (lv_at hl 2 rfl) ?_
                          refine lv_aload_n hx hb dL_law_408 rfl (lv_at hl 3 rfl) ?_
                          refine lv_iload hx hb dL_law_409 (lv_at hl 0 rfl) ?_
                          refine lv_iconst (v := 4) hx hb dL_law_411 (by decide) ?_
                          refine lv_ishr hx hb dL_law_412 ?_
                          refine lv_aload_n hx hb dL_law_413 rfl (lv_at hl 3 rfl) ?_
                          obtain ⟨v138, k139, h⟩ := it_b h
                          refine kT_i (As := [.ref (ad 30)]) (rest := [.int (v56 >>> ((4 : Int32) &&& 31)), .ref (ad 30), .ref (ad 8)]) hx_E hw (c_L_edges l K 31 (Nat.le_refl 31) ad hI  σ49 k139) mi_L_edges sm_L_edges ml_L_19 rfl ⟨⟨Nat.le_of_ble_eq_true rfl, Nat.le_of_ble_eq_true rfl⟩, rfl, rfl⟩ ⟨Nat.le_trans (show c9 ≤ 1000 by omega) (Nat.le_of_ble_eq_true rfl), Nat.le_trans (show s9 ≤ 60000 by omega) (Nat.le_of_ble_eq_true rfl)⟩ hl.1 rfl (Nat.le_of_ble_eq_true rfl) dL_law_414 (fun H locs hw => ?_)
                          obtain ⟨v140, k141, h⟩ := it_b h
                          refine kS_i (As := [.int (v56 >>> ((4 : Int32) &&& 31)), .int v138]) (rest := [.ref (ad 30), .ref (ad 8)]) hx_E hw (c_L_low l K (v56 >>> ((4 : Int32) &&& 31)) v138 k141) mi_L_low sm_L_low ml_L_60 rfl ⟨⟨Nat.le_of_ble_eq_true rfl, Nat.le_of_ble_eq_true rfl⟩, rfl, rfl⟩ ⟨Nat.le_trans (show c9 ≤ 1000 by omega) (Nat.le_of_ble_eq_true rfl), Nat.le_trans (show s9 ≤ 60000 by omega) (Nat.le_of_ble_eq_true rfl)⟩ hl.1 rfl (Nat.le_of_ble_eq_true rfl) dL_law_417 (fun H locs hw => ?_)
                          refine lv_iload hx hb dL_law_420 (lv_at hl 0 rfl) ?_
                          refine lv_bipush (v := 10) hx hb dL_law_422 (by decide) ?_
                          refine lv_ishr hx hb dL_law_424 ?_
                          refine lv_iconst (v := 3) hx hb dL_law_425 (by decide) ?_
                          obtain ⟨v142, k143, h⟩ := it_b h
                          refine kS_i (As := [.int (v56 >>> ((10 : Int32) &&& 31)), .int (3 : Int32)]) (rest := [.int v140, .ref (ad 30), .ref (ad 8)]) hx_E hw (c_L_low l K (v56 >>> ((10 : Int32) &&& 31)) (3 : Int32) k143) mi_L_low sm_L_low ml_L_60 rfl ⟨⟨Nat.le_of_ble_eq_true rfl, Nat.le_of_ble_eq_true rfl⟩, rfl, rfl⟩ ⟨Nat.le_trans (show c9 ≤ 1000 by omega) (Nat.le_of_ble_eq_true rfl), Nat.le_trans (show s9 ≤ 60000 by omega) (Nat.le_of_ble_eq_true rfl)⟩ hl.1 rfl (Nat.le_of_ble_eq_true rfl) dL_law_426 (fun H locs hw => ?_)
                          obtain ⟨⟨v144, σ145⟩, k146, h⟩ := it_b h
                          refine kT_z (As := [.ref (ad 8), .ref (ad 30), .int v140, .int v142]) (rest := []) hx_E hw (c_L_marks l K 31 (Nat.le_refl 31) ad hI v140 v142 σ49 k146) mi_L_marks sm_L_marks ml_L_114 rfl ⟨⟨Nat.le_of_ble_eq_true rfl, Nat.le_of_ble_eq_true rfl⟩, rfl, rfl⟩ ⟨Nat.le_trans (show c9 ≤ 1000 by omega) (Nat.le_of_ble_eq_true rfl), Nat.le_trans (show s9 ≤ 60000 by omega) (Nat.le_of_ble_eq_true rfl)⟩ hl.1 rfl (Nat.le_of_ble_eq_true rfl) dL_law_429 (fun z147 H locs hw => ?_)
                          refine lv_istore (lv' := [(5, .int v144), (4, .int v56), (0, .ref b), (1, .ref (ad 8)), (2, .ref (ad 30)), (3, .int v48)]) hx hb dL_law_432 hl (by decide) rfl (fun ls hl => ?_)
                          have e9 := Option.some.inj h
                          subst e9
                          exact hJ61 _ _ rfl z147 H locs ls hw (lv_sub hl [2, 3, 4, 5, 0] rfl)
                    refine W.widen (k := 100) (n := 26000) (Nat.le_of_ble_eq_true rfl) (Nat.le_of_ble_eq_true rfl) ?_
                    exact hL51 600 _ _ 100 26000 (Nat.le_of_ble_eq_true rfl) (Nat.le_of_ble_eq_true rfl)  H locs ls h9 hw (lv_sub hl [1, 2, 3, 0] rfl)
                  · replace h := it_t c47 h
                    refine lv_iconst (v := 0) hx hb dL_law_113 (by decide) ?_
                    refine W.widen (k := 600000) (n := 7302250) (Nat.le_of_ble_eq_true rfl) (Nat.le_of_ble_eq_true rfl) ?_
                    exact hE hw (congrArg Prod.fst (Option.some.inj h)) (congrArg Prod.snd (Option.some.inj h)) (Or.inl rfl) dL_law_114
  have hL5 : ∀ (n9 : Nat) (v2 : Int32) (σ3 : vSt), ∀ (H : Heap) (locs : List Loc) (ls : Array Slot), f_L_law_23  n9 v2 σ3 = some φ7 → PW K 31 ad (cC K ad) A s.heap σ3 H locs → lv_has ls 8 [(0, .ref b), (1, .ref (ad 8)), (2, .ref (ad 30)), (3, .int v2)] → W p l e room_1 s m #[Value.ref b] below meth c H locs 31 768 Q (F0 m 23 ls []) := by
    intro n9
    induction n9 with
    | zero => intro v2 σ3 H locs ls h hw hl; rw [f_L_law_23.eq_1] at h; exact it_n h
    | succ n9 ih =>
      intro v2 σ3 H locs ls h hw hl
      rw [f_L_law_23.eq_2] at h
      refine lv_iload_n hx hb dL_law_23 rfl (lv_at hl 3 rfl) ?_
      refine lv_bipush (v := 16) hx hb dL_law_24 (by decide) ?_
      refine lv_icmp_ge (tgt := 41) hx hb dL_law_26 (by decide) (fun c8 => ?_) (fun c8 => ?_)
      · replace h := it_t c8 h
        have e9 := Option.some.inj h
        subst e9
        exact hJ6 _ rfl  H locs ls hw (lv_sub hl [0, 1, 2] rfl)
      · replace h := it_f c8 h
        refine lv_aload_n hx hb dL_law_29 rfl (lv_at hl 2 rfl) ?_
        refine lv_iconst (v := 2) hx hb dL_law_30 (by decide) ?_
        refine lv_iload_n hx hb dL_law_31 rfl (lv_at hl 3 rfl) ?_
        refine lv_iadd hx hb dL_law_32 ?_
        refine lv_iconst (v := -1) hx hb dL_law_33 (by decide) ?_
        obtain ⟨g9, h⟩ := it_g h
        refine sC_30 hx_E hw (Nat.le_refl 31) g9 dL_law_34 (fun H locs hw => ?_)
        refine lv_iinc (v := (v2 + 1)) (lv' := [(3, .int (v2 + 1)), (0, .ref b), (1, .ref (ad 8)), (2, .ref (ad 30))]) hx hb dL_law_35 hl (k := 3) rfl rfl (by decide) rfl (fun ls hl => ?_)
        refine lv_goto (tgt := 23) hx hb dL_law_38 (by decide) ?_
        exact ih _ _   H locs ls h hw (lv_sub hl [1, 2, 3, 0] rfl)
  exact hL5 600 _ _   H locs ls h9 hw (lv_sub hl [3, 2, 1, 0] rfl)
