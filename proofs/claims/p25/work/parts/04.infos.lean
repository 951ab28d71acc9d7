def o_lshl (x : Int64) (y : Int32) : Int64 := x <<< (y.toInt64 &&& 63)
def o_lushr (x : Int64) (y : Int32) : Int64 := (x.toUInt64 >>> (y.toInt64.toUInt64 &&& Int64.toUInt64 63)).toInt64
def o_iushr (x : Int32) (y : Int32) : Int32 := (x.toUInt32 >>> (y.toUInt32 &&& Int32.toUInt32 31)).toInt32
theorem adInj_0 : adInj 0 ad_0 := fun i j h _ _ => absurd h (Nat.not_lt_zero i)
theorem PW_cast {K : vK} {N : Nat} {ad : Nat → Nat} {cf : vCf} {A : Nat → Prop} {H0 : Heap} {σ σ' : vSt} {H : Heap} {locs : List Loc} (he : σ = σ') (h : PW K N ad cf A H0 σ H locs) : PW K N ad cf A H0 σ' H locs := by rw [← he]; exact h
theorem sw_ne {x : Int32} {k : Int} {y : Int32} (hy : y.toInt = k) (h : ¬ x = y) : x.toInt ≠ k := fun e => h (Int32.toInt_inj.mp (e.trans hy.symm))
section ENDS
variable {p : Program} {l : Launch} {e : Env} {R : Room} {s : State} {m : MethodId} {args : Array Value} {below : List Frame} {meth : Method} {c : Code} {H : Heap} {locs : List Loc} {cells slots : Nat} {Q : State → Prop} {pc : Nat} {ls : Array Slot} {rest : List Value}
theorem lt_topi {x y : Int32} (he : x = y) (k : W p l e R s m args below meth c H locs cells slots Q (F0 m pc ls (.int y :: rest))) : W p l e R s m args below meth c H locs cells slots Q (F0 m pc ls (.int x :: rest)) := by rw [he]; exact k
theorem lt_topl {x y : Int64} (he : x = y) (k : W p l e R s m args below meth c H locs cells slots Q (F0 m pc ls (.long y :: rest))) : W p l e R s m args below meth c H locs cells slots Q (F0 m pc ls (.long x :: rest)) := by rw [he]; exact k
end ENDS
theorem MCi_of {l : Launch} {y : MethodName} {cc : ByteArray} {nL : Nat} {own : String} {rm : Room} {K : vK} {N : Nat} {ad : Nat → Nat} {cf : vCf} {av : List Value} {σ σ' : vSt} {r : Int32} (hy : plainFor y = true) (hI : adInj N ad) (ho : y.cls = own) (hav : (lg_sl av).length ≤ nL)
    (body : ∀ (p : Program) (e : Env) (s : State) (m : MethodId) (args : Array Value) (below : List Frame) (meth : Method) (c : Code) (A : Nat → Prop) (Q : State → Prop), EC p s m args c cc nL gtbl own K N ad cf A → (∀ {H : Heap} {locs : List Loc} {pc : Nat} {ls : Array Slot} {v : Int32} {σ1 : vSt}, PW K N ad cf A s.heap σ1 H locs → v = r → σ1 = σ' → decode cc pc = .ok (.ireturn, 1) → W p l e rm s m args below meth c H locs 0 0 Q (F0 m pc ls [.int v])) → ∀ (H : Heap) (locs : List Loc) (ls : Array Slot), PW K N ad cf A s.heap σ H locs → lv_has ls nL (lv_args 0 av) → W p l e rm s m args below meth c H locs 0 0 Q (F0 m 0 ls [])) :
    MCi l y (wsY y cc nL (some .int)) rm K N ad cf av σ r σ' := fun sz => MC_of (Qc := fun z => QCi K N ad cf r σ' z) hy hI ho hav (fun p e s m args below meth c A E hr hk hA hw ls hl => body p e s m args below meth c A _ E (fun hw h1 h2 hdg => q_iret E hA hr hk hw h1 h2 hdg) s.heap [] ls hw hl) sz
theorem MCz_of {l : Launch} {y : MethodName} {cc : ByteArray} {nL : Nat} {own : String} {rm : Room} {K : vK} {N : Nat} {ad : Nat → Nat} {cf : vCf} {av : List Value} {σ σ' : vSt} {r : Int32} (hy : plainFor y = true) (hI : adInj N ad) (ho : y.cls = own) (hav : (lg_sl av).length ≤ nL)
    (body : ∀ (p : Program) (e : Env) (s : State) (m : MethodId) (args : Array Value) (below : List Frame) (meth : Method) (c : Code) (A : Nat → Prop) (Q : State → Prop), EC p s m args c cc nL gtbl own K N ad cf A → (∀ {H : Heap} {locs : List Loc} {pc : Nat} {ls : Array Slot} {v : Int32} {σ1 : vSt}, PW K N ad cf A s.heap σ1 H locs → v = r → σ1 = σ' → (v = 0 ∨ v = 1) → decode cc pc = .ok (.ireturn, 1) → W p l e rm s m args below meth c H locs 0 0 Q (F0 m pc ls [.int v])) → ∀ (H : Heap) (locs : List Loc) (ls : Array Slot), PW K N ad cf A s.heap σ H locs → lv_has ls nL (lv_args 0 av) → W p l e rm s m args below meth c H locs 0 0 Q (F0 m 0 ls [])) :
    MCz l y (wsY y cc nL (some .boolean)) rm K N ad cf av σ r σ' := fun sz => MC_of (Qc := fun z => QCz K N ad cf r σ' z) hy hI ho hav (fun p e s m args below meth c A E hr hk hA hw ls hl => body p e s m args below meth c A _ E (fun hw h1 h2 hz hdg => q_zret E hA hr hk hw h1 h2 hz hdg) s.heap [] ls hw hl) sz
theorem MCl_of {l : Launch} {y : MethodName} {cc : ByteArray} {nL : Nat} {own : String} {rm : Room} {K : vK} {N : Nat} {ad : Nat → Nat} {cf : vCf} {av : List Value} {σ σ' : vSt} {r : Int64} (hy : plainFor y = true) (hI : adInj N ad) (ho : y.cls = own) (hav : (lg_sl av).length ≤ nL)
    (body : ∀ (p : Program) (e : Env) (s : State) (m : MethodId) (args : Array Value) (below : List Frame) (meth : Method) (c : Code) (A : Nat → Prop) (Q : State → Prop), EC p s m args c cc nL gtbl own K N ad cf A → (∀ {H : Heap} {locs : List Loc} {pc : Nat} {ls : Array Slot} {v : Int64} {σ1 : vSt}, PW K N ad cf A s.heap σ1 H locs → v = r → σ1 = σ' → decode cc pc = .ok (.lreturn, 1) → W p l e rm s m args below meth c H locs 0 0 Q (F0 m pc ls [.long v])) → ∀ (H : Heap) (locs : List Loc) (ls : Array Slot), PW K N ad cf A s.heap σ H locs → lv_has ls nL (lv_args 0 av) → W p l e rm s m args below meth c H locs 0 0 Q (F0 m 0 ls [])) :
    MCl l y (wsY y cc nL (some .long)) rm K N ad cf av σ r σ' := fun sz => MC_of (Qc := fun z => QCl K N ad cf r σ' z) hy hI ho hav (fun p e s m args below meth c A E hr hk hA hw ls hl => body p e s m args below meth c A _ E (fun hw h1 h2 hdg => q_lret E hA hr hk hw h1 h2 hdg) s.heap [] ls hw hl) sz
theorem MCv_of {l : Launch} {y : MethodName} {cc : ByteArray} {nL : Nat} {own : String} {rm : Room} {K : vK} {N : Nat} {ad : Nat → Nat} {cf : vCf} {av : List Value} {σ σ' : vSt} (hy : plainFor y = true) (hI : adInj N ad) (ho : y.cls = own) (hav : (lg_sl av).length ≤ nL)
    (body : ∀ (p : Program) (e : Env) (s : State) (m : MethodId) (args : Array Value) (below : List Frame) (meth : Method) (c : Code) (A : Nat → Prop) (Q : State → Prop), EC p s m args c cc nL gtbl own K N ad cf A → (∀ {H : Heap} {locs : List Loc} {pc : Nat} {ls : Array Slot} {σ1 : vSt}, PW K N ad cf A s.heap σ1 H locs → σ1 = σ' → decode cc pc = .ok (.return_, 1) → W p l e rm s m args below meth c H locs 0 0 Q (F0 m pc ls [])) → ∀ (H : Heap) (locs : List Loc) (ls : Array Slot), PW K N ad cf A s.heap σ H locs → lv_has ls nL (lv_args 0 av) → W p l e rm s m args below meth c H locs 0 0 Q (F0 m 0 ls [])) :
    MCv l y (wsY y cc nL none) rm K N ad cf av σ σ' := fun sz => MC_of (Qc := fun z => QCv K N ad cf σ' z) hy hI ho hav (fun p e s m args below meth c A E hr hk hA hw ls hl => body p e s m args below meth c A _ E (fun hw h2 hdg => q_vret E hA hr hk hw h2 hdg) s.heap [] ls hw hl) sz
theorem pf_J9_floorMod_7cf53 : plainFor yJ9_floorMod_7cf53 = true := by decide +kernel
theorem pf_J9_min_7cf53 : plainFor yJ9_min_7cf53 = true := by decide +kernel
theorem pf_J9_max_7cf53 : plainFor yJ9_max_7cf53 = true := by decide +kernel

theorem sw_out0_2 {x : Int32} (h0 : ¬ x = 0) (h1 : ¬ x = 1) (h2 : ¬ x = 2) : x.toInt < 0 ∨ 2 < x.toInt := by
  have g0 : x.toInt ≠ 0 := sw_ne (y := 0) (by decide) h0
  have g1 : x.toInt ≠ 1 := sw_ne (y := 1) (by decide) h1
  have g2 : x.toInt ≠ 2 := sw_ne (y := 2) (by decide) h2
  omega
theorem sw_out0_4 {x : Int32} (h0 : ¬ x = 0) (h1 : ¬ x = 1) (h2 : ¬ x = 2) (h3 : ¬ x = 3) (h4 : ¬ x = 4) : x.toInt < 0 ∨ 4 < x.toInt := by
  have g0 : x.toInt ≠ 0 := sw_ne (y := 0) (by decide) h0
  have g1 : x.toInt ≠ 1 := sw_ne (y := 1) (by decide) h1
  have g2 : x.toInt ≠ 2 := sw_ne (y := 2) (by decide) h2
  have g3 : x.toInt ≠ 3 := sw_ne (y := 3) (by decide) h3
  have g4 : x.toInt ≠ 4 := sw_ne (y := 4) (by decide) h4
  omega
theorem sw_out0_14 {x : Int32} (h0 : ¬ x = 0) (h1 : ¬ x = 1) (h2 : ¬ x = 2) (h3 : ¬ x = 3) (h4 : ¬ x = 4) (h5 : ¬ x = 5) (h6 : ¬ x = 6) (h7 : ¬ x = 7) (h8 : ¬ x = 8) (h9 : ¬ x = 9) (h10 : ¬ x = 10) (h11 : ¬ x = 11) (h12 : ¬ x = 12) (h13 : ¬ x = 13) (h14 : ¬ x = 14) : x.toInt < 0 ∨ 14 < x.toInt := by
  have g0 : x.toInt ≠ 0 := sw_ne (y := 0) (by decide) h0
  have g1 : x.toInt ≠ 1 := sw_ne (y := 1) (by decide) h1
  have g2 : x.toInt ≠ 2 := sw_ne (y := 2) (by decide) h2
  have g3 : x.toInt ≠ 3 := sw_ne (y := 3) (by decide) h3
  have g4 : x.toInt ≠ 4 := sw_ne (y := 4) (by decide) h4
  have g5 : x.toInt ≠ 5 := sw_ne (y := 5) (by decide) h5
  have g6 : x.toInt ≠ 6 := sw_ne (y := 6) (by decide) h6
  have g7 : x.toInt ≠ 7 := sw_ne (y := 7) (by decide) h7
  have g8 : x.toInt ≠ 8 := sw_ne (y := 8) (by decide) h8
  have g9 : x.toInt ≠ 9 := sw_ne (y := 9) (by decide) h9
  have g10 : x.toInt ≠ 10 := sw_ne (y := 10) (by decide) h10
  have g11 : x.toInt ≠ 11 := sw_ne (y := 11) (by decide) h11
  have g12 : x.toInt ≠ 12 := sw_ne (y := 12) (by decide) h12
  have g13 : x.toInt ≠ 13 := sw_ne (y := 13) (by decide) h13
  have g14 : x.toInt ≠ 14 := sw_ne (y := 14) (by decide) h14
  omega
theorem mi_X6_type : MI yX6_type cX6_type 2 (some .int) RX6 1 := ⟨in_X6, co_X6_type, by decide⟩
theorem mv_X6_type : MV yX6_type RX6 := ⟨im_X6_type, se_X6_type⟩
theorem mi_X6_clearText : MI yX6_clearText cX6_clearText 2 (some .int) RX6 0 := ⟨in_X6, co_X6_clearText, by decide⟩
theorem mv_X6_clearText : MV yX6_clearText RX6 := ⟨im_X6_clearText, se_X6_clearText⟩
theorem mi_X6_fault : MI yX6_fault cX6_fault 1 (some .int) RX6 0 := ⟨in_X6, co_X6_fault, by decide⟩
theorem mv_X6_fault : MV yX6_fault RX6 := ⟨im_X6_fault, se_X6_fault⟩
theorem mi_X6_setPuzzle : MI yX6_setPuzzle cX6_setPuzzle 2 (some .int) RX6 0 := ⟨in_X6, co_X6_setPuzzle, by decide⟩
theorem mv_X6_setPuzzle : MV yX6_setPuzzle RX6 := ⟨im_X6_setPuzzle, se_X6_setPuzzle⟩
theorem mi_X6_setCount : MI yX6_setCount cX6_setCount 4 (some .int) RX6 2 := ⟨in_X6, co_X6_setCount, by decide⟩
theorem mv_X6_setCount : MV yX6_setCount RX6 := ⟨im_X6_setCount, se_X6_setCount⟩
theorem mi_X6_mark : MI yX6_mark cX6_mark 10 (some .int) RX6 2 := ⟨in_X6, co_X6_mark, by decide⟩
theorem mv_X6_mark : MV yX6_mark RX6 := ⟨im_X6_mark, se_X6_mark⟩
theorem mi_X6_wipe : MI yX6_wipe cX6_wipe 2 (some .int) RX6 0 := ⟨in_X6, co_X6_wipe, by decide⟩
theorem mv_X6_wipe : MV yX6_wipe RX6 := ⟨im_X6_wipe, se_X6_wipe⟩
theorem mi_X6_deduceAll : MI yX6_deduceAll cX6_deduceAll 3 (some .int) RX6 1 := ⟨in_X6, co_X6_deduceAll, by decide⟩
theorem mv_X6_deduceAll : MV yX6_deduceAll RX6 := ⟨im_X6_deduceAll, se_X6_deduceAll⟩
theorem mi_X6_undo : MI yX6_undo cX6_undo 1 (some .int) RX6 0 := ⟨in_X6, co_X6_undo, by decide⟩
theorem mv_X6_undo : MV yX6_undo RX6 := ⟨im_X6_undo, se_X6_undo⟩
theorem mi_X6_countOf : MI yX6_countOf cX6_countOf 2 (some .int) RX6 1 := ⟨in_X6, co_X6_countOf, by decide⟩
theorem mv_X6_countOf : MV yX6_countOf RX6 := ⟨im_X6_countOf, se_X6_countOf⟩
theorem mi_X6_edge : MI yX6_edge cX6_edge 2 (some .int) RX6 1 := ⟨in_X6, co_X6_edge, by decide⟩
theorem mv_X6_edge : MV yX6_edge RX6 := ⟨im_X6_edge, se_X6_edge⟩
theorem mi_X6_edgeAt : MI yX6_edgeAt cX6_edgeAt 8 (some .int) RX6 3 := ⟨in_X6, co_X6_edgeAt, by decide⟩
theorem mv_X6_edgeAt : MV yX6_edgeAt RX6 := ⟨im_X6_edgeAt, se_X6_edgeAt⟩
theorem mi_X6_misfit : MI yX6_misfit cX6_misfit 2 (some .int) RX6 1 := ⟨in_X6, co_X6_misfit, by decide⟩
theorem mv_X6_misfit : MV yX6_misfit RX6 := ⟨im_X6_misfit, se_X6_misfit⟩
theorem mi_X6_hint : MI yX6_hint cX6_hint 2 (some .int) RX6 1 := ⟨in_X6, co_X6_hint, by decide⟩
theorem mv_X6_hint : MV yX6_hint RX6 := ⟨im_X6_hint, se_X6_hint⟩
theorem mi_X6_way : MI yX6_way cX6_way 5 (some .int) RX6 2 := ⟨in_X6, co_X6_way, by decide⟩
theorem mv_X6_way : MV yX6_way RX6 := ⟨im_X6_way, se_X6_way⟩
theorem mi_X6_count : MI yX6_count cX6_count 2 (some .int) RX6 1 := ⟨in_X6, co_X6_count, by decide⟩
theorem mv_X6_count : MV yX6_count RX6 := ⟨im_X6_count, se_X6_count⟩
theorem mi_X6_foundPart : MI yX6_foundPart cX6_foundPart 2 (some .int) RX6 1 := ⟨in_X6, co_X6_foundPart, by decide⟩
theorem mv_X6_foundPart : MV yX6_foundPart RX6 := ⟨im_X6_foundPart, se_X6_foundPart⟩
theorem mi_X6_makeFound : MI yX6_makeFound cX6_makeFound 2 none RX6 0 := ⟨in_X6, co_X6_makeFound, by decide⟩
theorem mv_X6_makeFound : MV yX6_makeFound RX6 := ⟨im_X6_makeFound, se_X6_makeFound⟩
theorem mi_X6_forgetMade : MI yX6_forgetMade cX6_forgetMade 2 none RX6 0 := ⟨in_X6, co_X6_forgetMade, by decide⟩
theorem mv_X6_forgetMade : MV yX6_forgetMade RX6 := ⟨im_X6_forgetMade, se_X6_forgetMade⟩
theorem mi_X6_becomes : MI yX6_becomes cX6_becomes 1 (some .int) RX6 1 := ⟨in_X6, co_X6_becomes, by decide⟩
theorem mi_X6_leastOf : MI yX6_leastOf cX6_leastOf 2 (some .int) RX6 1 := ⟨in_X6, co_X6_leastOf, by decide⟩
theorem mi_X6_with : MI yX6_with cX6_with 3 (some .int) RX6 3 := ⟨in_X6, co_X6_with, by decide⟩
theorem mi_X0_fits : MI yX0_fits cX0_fits 1 (some .boolean) RX0 0 := ⟨in_X0, co_X0_fits, by decide⟩
theorem mv_X0_fits : MV yX0_fits RX0 := ⟨im_X0_fits, se_X0_fits⟩
theorem mi_X0_finished : MI yX0_finished cX0_finished 1 (some .boolean) RX0 0 := ⟨in_X0, co_X0_finished, by decide⟩
theorem mv_X0_finished : MV yX0_finished RX0 := ⟨im_X0_finished, se_X0_finished⟩
theorem mi_X0_markOf : MI yX0_markOf cX0_markOf 2 (some .int) RX0 1 := ⟨in_X0, co_X0_markOf, by decide⟩
theorem mv_X0_markOf : MV yX0_markOf RX0 := ⟨im_X0_markOf, se_X0_markOf⟩
theorem mi_X0_begin : MI yX0_begin cX0_begin 6 none RX0 2 := ⟨in_X0, co_X0_begin, by decide⟩
theorem mv_X0_begin : MV yX0_begin RX0 := ⟨im_X0_begin, se_X0_begin⟩
theorem mi_X0_copyFrom : MI yX0_copyFrom cX0_copyFrom 3 none RX0 1 := ⟨in_X0, co_X0_copyFrom, by decide⟩
theorem mv_X0_copyFrom : MV yX0_copyFrom RX0 := ⟨im_X0_copyFrom, se_X0_copyFrom⟩
theorem mi_X0_settleEdge : MI yX0_settleEdge cX0_settleEdge 5 none RX0 2 := ⟨in_X0, co_X0_settleEdge, by decide⟩
theorem mv_X0_settleEdge : MV yX0_settleEdge RX0 := ⟨im_X0_settleEdge, se_X0_settleEdge⟩
theorem mi_X0_lookAtCell : MI yX0_lookAtCell cX0_lookAtCell 5 none RX0 1 := ⟨in_X0, co_X0_lookAtCell, by decide⟩
theorem mv_X0_lookAtCell : MV yX0_lookAtCell RX0 := ⟨im_X0_lookAtCell, se_X0_lookAtCell⟩
theorem mi_X0_lookAtCorner : MI yX0_lookAtCorner cX0_lookAtCorner 4 none RX0 1 := ⟨in_X0, co_X0_lookAtCorner, by decide⟩
theorem mv_X0_lookAtCorner : MV yX0_lookAtCorner RX0 := ⟨im_X0_lookAtCorner, se_X0_lookAtCorner⟩
theorem mi_X0_lookAtRings : MI yX0_lookAtRings cX0_lookAtRings 6 none RX0 0 := ⟨in_X0, co_X0_lookAtRings, by decide⟩
theorem mv_X0_lookAtRings : MV yX0_lookAtRings RX0 := ⟨im_X0_lookAtRings, se_X0_lookAtRings⟩
theorem mi_X0_lookAtWay : MI yX0_lookAtWay cX0_lookAtWay 3 none RX0 1 := ⟨in_X0, co_X0_lookAtWay, by decide⟩
theorem mv_X0_lookAtWay : MV yX0_lookAtWay RX0 := ⟨im_X0_lookAtWay, se_X0_lookAtWay⟩
theorem mi_X0_wayOf : MI yX0_wayOf cX0_wayOf 11 (some .long) RX0 1 := ⟨in_X0, co_X0_wayOf, by decide⟩
theorem mv_X0_wayOf : MV yX0_wayOf RX0 := ⟨im_X0_wayOf, se_X0_wayOf⟩
theorem mi_X0_isRing : MI yX0_isRing cX0_isRing 5 (some .boolean) RX0 1 := ⟨in_X0, co_X0_isRing, by decide⟩
theorem mv_X0_isRing : MV yX0_isRing RX0 := ⟨im_X0_isRing, se_X0_isRing⟩
theorem mi_X0_findAtPlace : MI yX0_findAtPlace cX0_findAtPlace 7 (some .boolean) RX0 1 := ⟨in_X0, co_X0_findAtPlace, by decide⟩
theorem mv_X0_findAtPlace : MV yX0_findAtPlace RX0 := ⟨im_X0_findAtPlace, se_X0_findAtPlace⟩
theorem mi_X0_findClosing : MI yX0_findClosing cX0_findClosing 11 (some .boolean) RX0 0 := ⟨in_X0, co_X0_findClosing, by decide⟩
theorem mv_X0_findClosing : MV yX0_findClosing RX0 := ⟨im_X0_findClosing, se_X0_findClosing⟩
theorem mi_X0_drawnAtEnd : MI yX0_drawnAtEnd cX0_drawnAtEnd 4 (some .long) RX0 2 := ⟨in_X0, co_X0_drawnAtEnd, by decide⟩
theorem mv_X0_drawnAtEnd : MV yX0_drawnAtEnd RX0 := ⟨im_X0_drawnAtEnd, se_X0_drawnAtEnd⟩
theorem mi_X0_meetsCounts : MI yX0_meetsCounts cX0_meetsCounts 5 (some .boolean) RX0 1 := ⟨in_X0, co_X0_meetsCounts, by decide⟩
theorem mv_X0_meetsCounts : MV yX0_meetsCounts RX0 := ⟨im_X0_meetsCounts, se_X0_meetsCounts⟩
theorem mi_X0_found : MI yX0_found cX0_found 4 none RX0 3 := ⟨in_X0, co_X0_found, by decide⟩
theorem mv_X0_found : MV yX0_found RX0 := ⟨im_X0_found, se_X0_found⟩
theorem mi_X0_makeFound : MI yX0_makeFound cX0_makeFound 1 none RX0 0 := ⟨in_X0, co_X0_makeFound, by decide⟩
theorem mv_X0_makeFound : MV yX0_makeFound RX0 := ⟨im_X0_makeFound, se_X0_makeFound⟩
theorem mi_X0_settle : MI yX0_settle cX0_settle 2 none RX0 0 := ⟨in_X0, co_X0_settle, by decide⟩
theorem mv_X0_settle : MV yX0_settle RX0 := ⟨im_X0_settle, se_X0_settle⟩
theorem mi_X1_hasCell : MI yX1_hasCell cX1_hasCell 2 (some .boolean) RX1 1 := ⟨in_X1, co_X1_hasCell, by decide⟩
theorem mv_X1_hasCell : MV yX1_hasCell RX1 := ⟨im_X1_hasCell, se_X1_hasCell⟩
theorem mi_X1_hasCorner : MI yX1_hasCorner cX1_hasCorner 2 (some .boolean) RX1 1 := ⟨in_X1, co_X1_hasCorner, by decide⟩
theorem mv_X1_hasCorner : MV yX1_hasCorner RX1 := ⟨im_X1_hasCorner, se_X1_hasCorner⟩
theorem mi_X1_hasEdge : MI yX1_hasEdge cX1_hasEdge 2 (some .boolean) RX1 1 := ⟨in_X1, co_X1_hasEdge, by decide⟩
theorem mv_X1_hasEdge : MV yX1_hasEdge RX1 := ⟨im_X1_hasEdge, se_X1_hasEdge⟩
theorem mi_X1_allEdges : MI yX1_allEdges cX1_allEdges 1 (some .long) RX1 0 := ⟨in_X1, co_X1_allEdges, by decide⟩
theorem mv_X1_allEdges : MV yX1_allEdges RX1 := ⟨im_X1_allEdges, se_X1_allEdges⟩
theorem mi_X1_countedCells : MI yX1_countedCells cX1_countedCells 3 (some .int) RX1 0 := ⟨in_X1, co_X1_countedCells, by decide⟩
theorem mv_X1_countedCells : MV yX1_countedCells RX1 := ⟨im_X1_countedCells, se_X1_countedCells⟩
theorem mi_X1_lay : MI yX1_lay cX1_lay 5 none RX1 2 := ⟨in_X1, co_X1_lay, by decide⟩
theorem mv_X1_lay : MV yX1_lay RX1 := ⟨im_X1_lay, se_X1_lay⟩
theorem mi_X1_layEdgesFrom : MI yX1_layEdgesFrom cX1_layEdgesFrom 6 none RX1 2 := ⟨in_X1, co_X1_layEdgesFrom, by decide⟩
theorem mv_X1_layEdgesFrom : MV yX1_layEdgesFrom RX1 := ⟨im_X1_layEdgesFrom, se_X1_layEdgesFrom⟩
theorem mi_X1_cellAt : MI yX1_cellAt cX1_cellAt 4 (some .int) RX1 2 := ⟨in_X1, co_X1_cellAt, by decide⟩
theorem mv_X1_cellAt : MV yX1_cellAt RX1 := ⟨im_X1_cellAt, se_X1_cellAt⟩
theorem mi_X1_layEdge : MI yX1_layEdge cX1_layEdge 8 none RX1 5 := ⟨in_X1, co_X1_layEdge, by decide⟩
theorem mv_X1_layEdge : MV yX1_layEdge RX1 := ⟨im_X1_layEdge, se_X1_layEdge⟩
theorem mi_X2_keep : MI yX2_keep cX2_keep 6 none RX2 3 := ⟨in_X2, co_X2_keep, by decide⟩
theorem mv_X2_keep : MV yX2_keep RX2 := ⟨im_X2_keep, se_X2_keep⟩
theorem mi_X2_restore : MI yX2_restore cX2_restore 6 none RX2 3 := ⟨in_X2, co_X2_restore, by decide⟩
theorem mv_X2_restore : MV yX2_restore RX2 := ⟨im_X2_restore, se_X2_restore⟩
theorem mi_X4_findNext : MI yX4_findNext cX4_findNext 6 (some .boolean) RX4 2 := ⟨in_X4, co_X4_findNext, by decide⟩
theorem mv_X4_findNext : MV yX4_findNext RX4 := ⟨im_X4_findNext, se_X4_findNext⟩
theorem mi_X5_append : MI yX5_append cX5_append 2 (some .int) RX5 1 := ⟨in_X5, co_X5_append, by decide⟩
theorem mv_X5_append : MV yX5_append RX5 := ⟨im_X5_append, se_X5_append⟩
theorem mi_X5_read : MI yX5_read cX5_read 4 (some .int) RX5 0 := ⟨in_X5, co_X5_read, by decide⟩
theorem mv_X5_read : MV yX5_read RX5 := ⟨im_X5_read, se_X5_read⟩
theorem mi_X5_beginRow : MI yX5_beginRow cX5_beginRow 1 (some .boolean) RX5 0 := ⟨in_X5, co_X5_beginRow, by decide⟩
theorem mv_X5_beginRow : MV yX5_beginRow RX5 := ⟨im_X5_beginRow, se_X5_beginRow⟩
theorem mi_X5_addCell : MI yX5_addCell cX5_addCell 3 (some .boolean) RX5 1 := ⟨in_X5, co_X5_addCell, by decide⟩
theorem mv_X5_addCell : MV yX5_addCell RX5 := ⟨im_X5_addCell, se_X5_addCell⟩
theorem mi_X5_rowIsWhole : MI yX5_rowIsWhole cX5_rowIsWhole 1 (some .boolean) RX5 0 := ⟨in_X5, co_X5_rowIsWhole, by decide⟩
theorem mv_X5_rowIsWhole : MV yX5_rowIsWhole RX5 := ⟨im_X5_rowIsWhole, se_X5_rowIsWhole⟩
theorem mi_X5_isCell : MI yX5_isCell cX5_isCell 1 (some .boolean) RX5 1 := ⟨in_X5, co_X5_isCell, by decide⟩
theorem mi_L_cell : MI yL_cell cL_cell 2 (some .int) RL 2 := ⟨in_L, co_L_cell, by decide⟩
theorem mi_L_low : MI yL_low cL_low 2 (some .int) RL 2 := ⟨in_L, co_L_low, by decide⟩
theorem mi_L_vertical : MI yL_vertical cL_vertical 1 (some .int) RL 1 := ⟨in_L, co_L_vertical, by decide⟩
theorem mi_L_edges : MI yL_edges cL_edges 1 (some .int) RL 1 := ⟨in_L, co_L_edges, by decide⟩
theorem mi_L_corners : MI yL_corners cL_corners 1 (some .int) RL 1 := ⟨in_L, co_L_corners, by decide⟩
theorem mi_L_ends : MI yL_ends cL_ends 5 (some .int) RL 2 := ⟨in_L, co_L_ends, by decide⟩
theorem mi_L_isAt : MI yL_isAt cL_isAt 3 (some .boolean) RL 3 := ⟨in_L, co_L_isAt, by decide⟩
theorem mi_L_isAround : MI yL_isAround cL_isAround 8 (some .boolean) RL 3 := ⟨in_L, co_L_isAround, by decide⟩
theorem mi_L_around : MI yL_around cL_around 5 (some .int) RL 3 := ⟨in_L, co_L_around, by decide⟩
theorem mi_L_at : MI yL_at cL_at 5 (some .int) RL 3 := ⟨in_L, co_L_at, by decide⟩
theorem mi_L_firstCell : MI yL_firstCell cL_firstCell 2 (some .int) RL 1 := ⟨in_L, co_L_firstCell, by decide⟩
theorem mi_L_firstCorner : MI yL_firstCorner cL_firstCorner 2 (some .int) RL 1 := ⟨in_L, co_L_firstCorner, by decide⟩
theorem mi_L_joins : MI yL_joins cL_joins 8 none RL 2 := ⟨in_L, co_L_joins, by decide⟩
theorem mi_L_isRing : MI yL_isRing cL_isRing 4 (some .boolean) RL 3 := ⟨in_L, co_L_isRing, by decide⟩
theorem mi_L_size : MI yL_size cL_size 5 (some .int) RL 3 := ⟨in_L, co_L_size, by decide⟩
theorem mi_L_isMet : MI yL_isMet cL_isMet 2 (some .boolean) RL 1 := ⟨in_L, co_L_isMet, by decide⟩
theorem mi_L_drawn : MI yL_drawn cL_drawn 3 (some .int) RL 1 := ⟨in_L, co_L_drawn, by decide⟩
theorem mi_L_firstRing : MI yL_firstRing cL_firstRing 5 (some .int) RL 2 := ⟨in_L, co_L_firstRing, by decide⟩
theorem mi_L_types : MI yL_types cL_types 8 (some .boolean) RL 4 := ⟨in_L, co_L_types, by decide⟩
theorem mi_L_sets : MI yL_sets cL_sets 7 (some .boolean) RL 5 := ⟨in_L, co_L_sets, by decide⟩
theorem mi_L_marks : MI yL_marks cL_marks 5 (some .boolean) RL 4 := ⟨in_L, co_L_marks, by decide⟩
theorem mi_L_isTold : MI yL_isTold cL_isTold 5 (some .boolean) RL 2 := ⟨in_L, co_L_isTold, by decide⟩
theorem mi_L_areAt : MI yL_areAt cL_areAt 6 (some .boolean) RL 2 := ⟨in_L, co_L_areAt, by decide⟩
theorem mi_L_areWays : MI yL_areWays cL_areWays 8 (some .boolean) RL 2 := ⟨in_L, co_L_areWays, by decide⟩
theorem mi_L_borders : MI yL_borders cL_borders 5 (some .boolean) RL 3 := ⟨in_L, co_L_borders, by decide⟩
theorem mi_J13_bitCount_95d88 : MI yJ13_bitCount_95d88 cJ13_bitCount_95d88 2 (some .int) RJ13 1 := ⟨in_JLong, co_J13_bitCount_95d88, by decide⟩
theorem mi_J9_floorMod_7cf53 : MI yJ9_floorMod_7cf53 cJ9_floorMod_7cf53 3 (some .int) RJ9 2 := ⟨in_JMath, co_J9_floorMod_7cf53, by decide⟩
theorem mi_J9_max_7cf53 : MI yJ9_max_7cf53 cJ9_max_7cf53 2 (some .int) RJ9 2 := ⟨in_JMath, co_J9_max_7cf53, by decide⟩
theorem mi_J9_min_7cf53 : MI yJ9_min_7cf53 cJ9_min_7cf53 2 (some .int) RJ9 2 := ⟨in_JMath, co_J9_min_7cf53, by decide⟩
