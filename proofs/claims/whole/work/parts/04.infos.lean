def o_lshl (x : Int64) (y : Int32) : Int64 := x <<< (y.toInt64 &&& 63)
def o_lushr (x : Int64) (y : Int32) : Int64 := (x.toUInt64 >>> (y.toInt64.toUInt64 &&& Int64.toUInt64 63)).toInt64
def o_iushr (x : Int32) (y : Int32) : Int32 := (x.toUInt32 >>> (y.toUInt32 &&& Int32.toUInt32 31)).toInt32
theorem adInj_0 : adInj 0 ad_0 := fun i j h _ _ => absurd h (Nat.not_lt_zero i)
theorem PW_cast {K : vK} {N : Nat} {ad : Nat → Nat} {cf : vCf} {A : Nat → Prop} {H0 : Heap} {σ σ' : vSt} {H : Heap} {locs : List Loc} (he : σ = σ') (h : PW K N ad cf A H0 σ H locs) : PW K N ad cf A H0 σ' H locs := by rw [← he]; exact h
theorem sw_ne {x : Int32} {k : Int} {y : Int32} (hy : y.toInt = k) (h : ¬ x = y) : x.toInt ≠ k := fun e => h (Int32.toInt_inj.mp (e.trans hy.symm))
section ENDS
variable {p : Program} {l : Launch} {e : Env} {R : Room} {s : State} {m : MethodId} {args : Array Value} {below : List Frame} {meth : Method} {c : Code} {H : Heap} {locs : List Loc} {cells slots : Nat} {Q : State → Prop} {pc : Nat} {ls : Array Slot} {rest : List Value}
theorem lt_topi {x y : Int32} (he : x = y) (k : W p l e R s m args below meth c H locs cells slots Q (F0 m pc ls (.int y :: rest))) : W p l e R s m args below meth c H locs cells slots Q (F0 m pc ls (.int x :: rest)) := by rw [he]; exact k
theorem lt_topl {x y : Int64} (he : x = y) (k : W p l e R s m args below meth c H locs cells slots Q (F0 m pc ls (.long y :: rest))) : W p l e R s m args below meth c H locs cells slots Q (F0 m pc ls (.long x :: rest)) := by rw [he]; exact k
end ENDS
theorem MCi_of {l : Launch} {y : MethodName} {cc : ByteArray} {nL : Nat} {own : String} {rm : Room} {K : vK} {N : Nat} {ad : Nat → Nat} {cf : vCf} {av : List Value} {σ σ' : vSt} {r : Int32} (hy : plainFor y = true) (hI : adInj N ad) (ho : y.cls = own) (hav : (lg_sl av).length ≤ nL)
    (body : ∀ (p : Program) (e : Env) (s : State) (m : MethodId) (args : Array Value) (below : List Frame) (meth : Method) (c : Code) (A : Nat → Prop) (Q : State → Prop), EC p s m args c cc nL gtbl own K N ad cf A → (∀ {H : Heap} {locs : List Loc} {pc : Nat} {ls : Array Slot} {v : Int32} {σ1 : vSt}, PW K N ad cf A s.heap σ1 H locs → v = r → σ1 = σ' → decode cc pc = .ok (.ireturn, 1) → W p l e rm s m args below meth c H locs 0 0 Q (F0 m pc ls [.int v])) → ∀ (H : Heap) (locs : List Loc) (ls : Array Slot), PW K N ad cf A s.heap σ H locs → lv_has ls nL (lv_args 0 av) → W p l e rm s m args below meth c H locs 0 0 Q (F0 m 0 ls [])) :
    MCi l y (wsY y cc nL (some .int)) rm K N ad cf av σ r σ' := fun sz => MC_of (Qc := fun z => QCi K N ad cf r σ' z) hy hI ho hav (fun p e s m args below meth c A E hr hk hA hw ls hl => body p e s m args below meth c A _ E (fun hw h1 h2 hdg => q_iret E hA hr hk hw h1 h2 hdg) s.heap [] ls hw hl) sz
theorem MCz_of {l : Launch} {y : MethodName} {cc : ByteArray} {nL : Nat} {own : String} {rm : Room} {K : vK} {N : Nat} {ad : Nat → Nat} {cf : vCf} {av : List Value} {σ σ' : vSt} {r : Int32} (hy : plainFor y = true) (hI : adInj N ad) (ho : y.cls = own) (hav : (lg_sl av).length ≤ nL)
    (body : ∀ (p : Program) (e : Env) (s : State) (m : MethodId) (args : Array Value) (below : List Frame) (meth : Method) (c : Code) (A : Nat → Prop) (Q : State → Prop), EC p s m args c cc nL gtbl own K N ad cf A → (∀ {H : Heap} {locs : List Loc} {pc : Nat} {ls : Array Slot} {v : Int32} {σ1 : vSt}, PW K N ad cf A s.heap σ1 H locs → v = r → σ1 = σ' → (v = 0 ∨ v = 1) → decode cc pc = .ok (.ireturn, 1) → W p l e rm s m args below meth c H locs 0 0 Q (F0 m pc ls [.int v])) → ∀ (H : Heap) (locs : List Loc) (ls : Array Slot), PW K N ad cf A s.heap σ H locs → lv_has ls nL (lv_args 0 av) → W p l e rm s m args below meth c H locs 0 0 Q (F0 m 0 ls [])) :
    MCz l y (wsY y cc nL (some .boolean)) rm K N ad cf av σ r σ' := fun sz => MC_of (Qc := fun z => QCz K N ad cf r σ' z) hy hI ho hav (fun p e s m args below meth c A E hr hk hA hw ls hl => body p e s m args below meth c A _ E (fun hw h1 h2 hz hdg => q_zret E hA hr hk hw h1 h2 hz hdg) s.heap [] ls hw hl) sz
theorem MCl_of {l : Launch} {y : MethodName} {cc : ByteArray} {nL : Nat} {own : String} {rm : Room} {K : vK} {N : Nat} {ad : Nat → Nat} {cf : vCf} {av : List Value} {σ σ' : vSt} {r : Int64} (hy : plainFor y = true) (hI : adInj N ad) (ho : y.cls = own) (hav : (lg_sl av).length ≤ nL)
    (body : ∀ (p : Program) (e : Env) (s : State) (m : MethodId) (args : Array Value) (below : List Frame) (meth : Method) (c : Code) (A : Nat → Prop) (Q : State → Prop), EC p s m args c cc nL gtbl own K N ad cf A → (∀ {H : Heap} {locs : List Loc} {pc : Nat} {ls : Array Slot} {v : Int64} {σ1 : vSt}, PW K N ad cf A s.heap σ1 H locs → v = r → σ1 = σ' → decode cc pc = .ok (.lreturn, 1) → W p l e rm s m args below meth c H locs 0 0 Q (F0 m pc ls [.long v])) → ∀ (H : Heap) (locs : List Loc) (ls : Array Slot), PW K N ad cf A s.heap σ H locs → lv_has ls nL (lv_args 0 av) → W p l e rm s m args below meth c H locs 0 0 Q (F0 m 0 ls [])) :
    MCl l y (wsY y cc nL (some .long)) rm K N ad cf av σ r σ' := fun sz => MC_of (Qc := fun z => QCl K N ad cf r σ' z) hy hI ho hav (fun p e s m args below meth c A E hr hk hA hw ls hl => body p e s m args below meth c A _ E (fun hw h1 h2 hdg => q_lret E hA hr hk hw h1 h2 hdg) s.heap [] ls hw hl) sz
theorem MCv_of {l : Launch} {y : MethodName} {cc : ByteArray} {nL : Nat} {own : String} {rm : Room} {K : vK} {N : Nat} {ad : Nat → Nat} {cf : vCf} {av : List Value} {σ σ' : vSt} (hy : plainFor y = true) (hI : adInj N ad) (ho : y.cls = own) (hav : (lg_sl av).length ≤ nL)
    (body : ∀ (p : Program) (e : Env) (s : State) (m : MethodId) (args : Array Value) (below : List Frame) (meth : Method) (c : Code) (A : Nat → Prop) (Q : State → Prop), EC p s m args c cc nL gtbl own K N ad cf A → (∀ {H : Heap} {locs : List Loc} {pc : Nat} {ls : Array Slot} {σ1 : vSt}, PW K N ad cf A s.heap σ1 H locs → σ1 = σ' → decode cc pc = .ok (.return_, 1) → W p l e rm s m args below meth c H locs 0 0 Q (F0 m pc ls [])) → ∀ (H : Heap) (locs : List Loc) (ls : Array Slot), PW K N ad cf A s.heap σ H locs → lv_has ls nL (lv_args 0 av) → W p l e rm s m args below meth c H locs 0 0 Q (F0 m 0 ls [])) :
    MCv l y (wsY y cc nL none) rm K N ad cf av σ σ' := fun sz => MC_of (Qc := fun z => QCv K N ad cf σ' z) hy hI ho hav (fun p e s m args below meth c A E hr hk hA hw ls hl => body p e s m args below meth c A _ E (fun hw h2 hdg => q_vret E hA hr hk hw h2 hdg) s.heap [] ls hw hl) sz
theorem pf_J9_floorMod_7cf53 : plainFor yJ9_floorMod_7cf53 = true := by decide +kernel
theorem pf_J9_min_7cf53 : plainFor yJ9_min_7cf53 = true := by decide +kernel
theorem pf_J9_max_7cf53 : plainFor yJ9_max_7cf53 = true := by decide +kernel

theorem sw_out0_2 {x : Int32} (h0 : ¬ x = 0) (h1 : ¬ x = 1) (h2 : ¬ x = 2) : x.toInt < 0 ∨ 2 < x.toInt := by
  have g0 : x.toInt ≠ 0 := sw_ne (y := 0) (by decide) h0
  have g1 : x.toInt ≠ 1 := sw_ne (y := 1) (by decide) h1
  have g2 : x.toInt ≠ 2 := sw_ne (y := 2) (by decide) h2
  omega
theorem sw_out0_4 {x : Int32} (h0 : ¬ x = 0) (h1 : ¬ x = 1) (h2 : ¬ x = 2) (h3 : ¬ x = 3) (h4 : ¬ x = 4) : x.toInt < 0 ∨ 4 < x.toInt := by
  have g0 : x.toInt ≠ 0 := sw_ne (y := 0) (by decide) h0
  have g1 : x.toInt ≠ 1 := sw_ne (y := 1) (by decide) h1
  have g2 : x.toInt ≠ 2 := sw_ne (y := 2) (by decide) h2
  have g3 : x.toInt ≠ 3 := sw_ne (y := 3) (by decide) h3
  have g4 : x.toInt ≠ 4 := sw_ne (y := 4) (by decide) h4
  omega
theorem sw_out0_14 {x : Int32} (h0 : ¬ x = 0) (h1 : ¬ x = 1) (h2 : ¬ x = 2) (h3 : ¬ x = 3) (h4 : ¬ x = 4) (h5 : ¬ x = 5) (h6 : ¬ x = 6) (h7 : ¬ x = 7) (h8 : ¬ x = 8) (h9 : ¬ x = 9) (h10 : ¬ x = 10) (h11 : ¬ x = 11) (h12 : ¬ x = 12) (h13 : ¬ x = 13) (h14 : ¬ x = 14) : x.toInt < 0 ∨ 14 < x.toInt := by
  have g0 : x.toInt ≠ 0 := sw_ne (y := 0) (by decide) h0
  have g1 : x.toInt ≠ 1 := sw_ne (y := 1) (by decide) h1
  have g2 : x.toInt ≠ 2 := sw_ne (y := 2) (by decide) h2
  have g3 : x.toInt ≠ 3 := sw_ne (y := 3) (by decide) h3
  have g4 : x.toInt ≠ 4 := sw_ne (y := 4) (by decide) h4
  have g5 : x.toInt ≠ 5 := sw_ne (y := 5) (by decide) h5
  have g6 : x.toInt ≠ 6 := sw_ne (y := 6) (by decide) h6
  have g7 : x.toInt ≠ 7 := sw_ne (y := 7) (by decide) h7
  have g8 : x.toInt ≠ 8 := sw_ne (y := 8) (by decide) h8
  have g9 : x.toInt ≠ 9 := sw_ne (y := 9) (by decide) h9
  have g10 : x.toInt ≠ 10 := sw_ne (y := 10) (by decide) h10
  have g11 : x.toInt ≠ 11 := sw_ne (y := 11) (by decide) h11
  have g12 : x.toInt ≠ 12 := sw_ne (y := 12) (by decide) h12
  have g13 : x.toInt ≠ 13 := sw_ne (y := 13) (by decide) h13
  have g14 : x.toInt ≠ 14 := sw_ne (y := 14) (by decide) h14
  omega
theorem sw_out0_15 {x : Int32} (h0 : ¬ x = 0) (h1 : ¬ x = 1) (h2 : ¬ x = 2) (h3 : ¬ x = 3) (h4 : ¬ x = 4) (h5 : ¬ x = 5) (h6 : ¬ x = 6) (h7 : ¬ x = 7) (h8 : ¬ x = 8) (h9 : ¬ x = 9) (h10 : ¬ x = 10) (h11 : ¬ x = 11) (h12 : ¬ x = 12) (h13 : ¬ x = 13) (h14 : ¬ x = 14) (h15 : ¬ x = 15) : x.toInt < 0 ∨ 15 < x.toInt := by
  have g0 : x.toInt ≠ 0 := sw_ne (y := 0) (by decide) h0
  have g1 : x.toInt ≠ 1 := sw_ne (y := 1) (by decide) h1
  have g2 : x.toInt ≠ 2 := sw_ne (y := 2) (by decide) h2
  have g3 : x.toInt ≠ 3 := sw_ne (y := 3) (by decide) h3
  have g4 : x.toInt ≠ 4 := sw_ne (y := 4) (by decide) h4
  have g5 : x.toInt ≠ 5 := sw_ne (y := 5) (by decide) h5
  have g6 : x.toInt ≠ 6 := sw_ne (y := 6) (by decide) h6
  have g7 : x.toInt ≠ 7 := sw_ne (y := 7) (by decide) h7
  have g8 : x.toInt ≠ 8 := sw_ne (y := 8) (by decide) h8
  have g9 : x.toInt ≠ 9 := sw_ne (y := 9) (by decide) h9
  have g10 : x.toInt ≠ 10 := sw_ne (y := 10) (by decide) h10
  have g11 : x.toInt ≠ 11 := sw_ne (y := 11) (by decide) h11
  have g12 : x.toInt ≠ 12 := sw_ne (y := 12) (by decide) h12
  have g13 : x.toInt ≠ 13 := sw_ne (y := 13) (by decide) h13
  have g14 : x.toInt ≠ 14 := sw_ne (y := 14) (by decide) h14
  have g15 : x.toInt ≠ 15 := sw_ne (y := 15) (by decide) h15
  omega
theorem mi_X6_type : MI yX6_type cX6_type 2 (some .int) RX6 1 := ⟨in_X6, co_X6_type, by decide⟩
theorem mv_X6_type : MV yX6_type RX6 := ⟨im_X6_type, se_X6_type⟩
theorem mi_X6_clearText : MI yX6_clearText cX6_clearText 2 (some .int) RX6 0 := ⟨in_X6, co_X6_clearText, by decide⟩
theorem mv_X6_clearText : MV yX6_clearText RX6 := ⟨im_X6_clearText, se_X6_clearText⟩
theorem mi_X6_fault : MI yX6_fault cX6_fault 1 (some .int) RX6 0 := ⟨in_X6, co_X6_fault, by decide⟩
theorem mv_X6_fault : MV yX6_fault RX6 := ⟨im_X6_fault, se_X6_fault⟩
theorem mi_X6_setPuzzle : MI yX6_setPuzzle cX6_setPuzzle 2 (some .int) RX6 0 := ⟨in_X6, co_X6_setPuzzle, by decide⟩
theorem mv_X6_setPuzzle : MV yX6_setPuzzle RX6 := ⟨im_X6_setPuzzle, se_X6_setPuzzle⟩
theorem mi_X6_setCount : MI yX6_setCount cX6_setCount 4 (some .int) RX6 2 := ⟨in_X6, co_X6_setCount, by decide⟩
theorem mv_X6_setCount : MV yX6_setCount RX6 := ⟨im_X6_setCount, se_X6_setCount⟩
theorem mi_X6_mark : MI yX6_mark cX6_mark 10 (some .int) RX6 2 := ⟨in_X6, co_X6_mark, by decide⟩
theorem mv_X6_mark : MV yX6_mark RX6 := ⟨im_X6_mark, se_X6_mark⟩
theorem mi_X6_wipe : MI yX6_wipe cX6_wipe 2 (some .int) RX6 0 := ⟨in_X6, co_X6_wipe, by decide⟩
theorem mv_X6_wipe : MV yX6_wipe RX6 := ⟨im_X6_wipe, se_X6_wipe⟩
theorem mi_X6_deduce : MI yX6_deduce cX6_deduce 1 (some .int) RX6 0 := ⟨in_X6, co_X6_deduce, by decide⟩
theorem mv_X6_deduce : MV yX6_deduce RX6 := ⟨im_X6_deduce, se_X6_deduce⟩
theorem mi_X6_deduceAll : MI yX6_deduceAll cX6_deduceAll 3 (some .int) RX6 1 := ⟨in_X6, co_X6_deduceAll, by decide⟩
theorem mv_X6_deduceAll : MV yX6_deduceAll RX6 := ⟨im_X6_deduceAll, se_X6_deduceAll⟩
theorem mi_X6_undo : MI yX6_undo cX6_undo 1 (some .int) RX6 0 := ⟨in_X6, co_X6_undo, by decide⟩
theorem mv_X6_undo : MV yX6_undo RX6 := ⟨im_X6_undo, se_X6_undo⟩
theorem mi_X6_countOf : MI yX6_countOf cX6_countOf 2 (some .int) RX6 1 := ⟨in_X6, co_X6_countOf, by decide⟩
theorem mv_X6_countOf : MV yX6_countOf RX6 := ⟨im_X6_countOf, se_X6_countOf⟩
theorem mi_X6_edge : MI yX6_edge cX6_edge 2 (some .int) RX6 1 := ⟨in_X6, co_X6_edge, by decide⟩
theorem mv_X6_edge : MV yX6_edge RX6 := ⟨im_X6_edge, se_X6_edge⟩
theorem mi_X6_edgeAt : MI yX6_edgeAt cX6_edgeAt 8 (some .int) RX6 3 := ⟨in_X6, co_X6_edgeAt, by decide⟩
theorem mv_X6_edgeAt : MV yX6_edgeAt RX6 := ⟨im_X6_edgeAt, se_X6_edgeAt⟩
theorem mi_X6_misfit : MI yX6_misfit cX6_misfit 2 (some .int) RX6 1 := ⟨in_X6, co_X6_misfit, by decide⟩
theorem mv_X6_misfit : MV yX6_misfit RX6 := ⟨im_X6_misfit, se_X6_misfit⟩
theorem mi_X6_hint : MI yX6_hint cX6_hint 2 (some .int) RX6 1 := ⟨in_X6, co_X6_hint, by decide⟩
theorem mv_X6_hint : MV yX6_hint RX6 := ⟨im_X6_hint, se_X6_hint⟩
theorem mi_X6_way : MI yX6_way cX6_way 5 (some .int) RX6 2 := ⟨in_X6, co_X6_way, by decide⟩
theorem mv_X6_way : MV yX6_way RX6 := ⟨im_X6_way, se_X6_way⟩
theorem mi_X6_solutions : MI yX6_solutions cX6_solutions 2 (some .int) RX6 1 := ⟨in_X6, co_X6_solutions, by decide⟩
theorem mv_X6_solutions : MV yX6_solutions RX6 := ⟨im_X6_solutions, se_X6_solutions⟩
theorem mi_X6_nodes : MI yX6_nodes cX6_nodes 2 (some .int) RX6 1 := ⟨in_X6, co_X6_nodes, by decide⟩
theorem mv_X6_nodes : MV yX6_nodes RX6 := ⟨im_X6_nodes, se_X6_nodes⟩
theorem mi_X6_solved : MI yX6_solved cX6_solved 2 (some .int) RX6 1 := ⟨in_X6, co_X6_solved, by decide⟩
theorem mv_X6_solved : MV yX6_solved RX6 := ⟨im_X6_solved, se_X6_solved⟩
theorem mi_X6_grade : MI yX6_grade cX6_grade 1 (some .int) RX6 0 := ⟨in_X6, co_X6_grade, by decide⟩
theorem mv_X6_grade : MV yX6_grade RX6 := ⟨im_X6_grade, se_X6_grade⟩
theorem mi_X6_count : MI yX6_count cX6_count 2 (some .int) RX6 1 := ⟨in_X6, co_X6_count, by decide⟩
theorem mv_X6_count : MV yX6_count RX6 := ⟨im_X6_count, se_X6_count⟩
theorem mi_X6_digest : MI yX6_digest cX6_digest 4 (some .long) RX6 0 := ⟨in_X6, co_X6_digest, by decide⟩
theorem mv_X6_digest : MV yX6_digest RX6 := ⟨im_X6_digest, se_X6_digest⟩
theorem mi_X6_addHints : MI yX6_addHints cX6_addHints 9 (some .long) RX6 1 := ⟨in_X6, co_X6_addHints, by decide⟩
theorem mv_X6_addHints : MV yX6_addHints RX6 := ⟨im_X6_addHints, se_X6_addHints⟩
theorem mi_X6_foundPart : MI yX6_foundPart cX6_foundPart 2 (some .int) RX6 1 := ⟨in_X6, co_X6_foundPart, by decide⟩
theorem mv_X6_foundPart : MV yX6_foundPart RX6 := ⟨im_X6_foundPart, se_X6_foundPart⟩
theorem mi_X6_makeFound : MI yX6_makeFound cX6_makeFound 2 none RX6 0 := ⟨in_X6, co_X6_makeFound, by decide⟩
theorem mv_X6_makeFound : MV yX6_makeFound RX6 := ⟨im_X6_makeFound, se_X6_makeFound⟩
theorem mi_X6_forgetMade : MI yX6_forgetMade cX6_forgetMade 2 none RX6 0 := ⟨in_X6, co_X6_forgetMade, by decide⟩
theorem mv_X6_forgetMade : MV yX6_forgetMade RX6 := ⟨im_X6_forgetMade, se_X6_forgetMade⟩
theorem mi_X6_becomes : MI yX6_becomes cX6_becomes 1 (some .int) RX6 1 := ⟨in_X6, co_X6_becomes, by decide⟩
theorem mi_X6_gradeOf : MI yX6_gradeOf cX6_gradeOf 1 (some .int) RX6 1 := ⟨in_X6, co_X6_gradeOf, by decide⟩
theorem mi_X6_leastOf : MI yX6_leastOf cX6_leastOf 2 (some .int) RX6 1 := ⟨in_X6, co_X6_leastOf, by decide⟩
theorem mi_X6_with : MI yX6_with cX6_with 3 (some .int) RX6 3 := ⟨in_X6, co_X6_with, by decide⟩
theorem mi_X7_in : MI yX7_in cX7_in 3 (some .boolean) RX7 3 := ⟨in_X7, co_X7_in, by decide⟩
theorem mi_X7_keeps : MI yX7_keeps cX7_keeps 2 none RX7 0 := ⟨in_X7, co_X7_keeps, by decide⟩
theorem mv_X7_keeps : MV yX7_keeps RX7 := ⟨im_X7_keeps, se_X7_keeps⟩
theorem mi_X7_undo : MI yX7_undo cX7_undo 2 (some .int) RX7 0 := ⟨in_X7, co_X7_undo, by decide⟩
theorem mv_X7_undo : MV yX7_undo RX7 := ⟨im_X7_undo, se_X7_undo⟩
theorem mi_X7_cells : MI yX7_cells cX7_cells 1 (some .int) RX7 0 := ⟨in_X7, co_X7_cells, by decide⟩
theorem mv_X7_cells : MV yX7_cells RX7 := ⟨im_X7_cells, se_X7_cells⟩
theorem mi_X7_corners : MI yX7_corners cX7_corners 1 (some .int) RX7 0 := ⟨in_X7, co_X7_corners, by decide⟩
theorem mv_X7_corners : MV yX7_corners RX7 := ⟨im_X7_corners, se_X7_corners⟩
theorem mi_X7_vertical : MI yX7_vertical cX7_vertical 1 (some .int) RX7 0 := ⟨in_X7, co_X7_vertical, by decide⟩
theorem mv_X7_vertical : MV yX7_vertical RX7 := ⟨im_X7_vertical, se_X7_vertical⟩
theorem mi_X7_edges : MI yX7_edges cX7_edges 1 (some .int) RX7 0 := ⟨in_X7, co_X7_edges, by decide⟩
theorem mv_X7_edges : MV yX7_edges RX7 := ⟨im_X7_edges, se_X7_edges⟩
theorem mi_X7_aroundCell : MI yX7_aroundCell cX7_aroundCell 5 (some .int) RX7 2 := ⟨in_X7, co_X7_aroundCell, by decide⟩
theorem mv_X7_aroundCell : MV yX7_aroundCell RX7 := ⟨im_X7_aroundCell, se_X7_aroundCell⟩
theorem mi_X7_toward : MI yX7_toward cX7_toward 5 (some .int) RX7 2 := ⟨in_X7, co_X7_toward, by decide⟩
theorem mv_X7_toward : MV yX7_toward RX7 := ⟨im_X7_toward, se_X7_toward⟩
theorem mi_X7_end : MI yX7_end cX7_end 4 (some .int) RX7 2 := ⟨in_X7, co_X7_end, by decide⟩
theorem mv_X7_end : MV yX7_end RX7 := ⟨im_X7_end, se_X7_end⟩
theorem mi_X7_markOf : MI yX7_markOf cX7_markOf 2 (some .int) RX7 1 := ⟨in_X7, co_X7_markOf, by decide⟩
theorem mv_X7_markOf : MV yX7_markOf RX7 := ⟨im_X7_markOf, se_X7_markOf⟩
theorem mi_X7_aroundWith : MI yX7_aroundWith cX7_aroundWith 5 (some .int) RX7 2 := ⟨in_X7, co_X7_aroundWith, by decide⟩
theorem mv_X7_aroundWith : MV yX7_aroundWith RX7 := ⟨im_X7_aroundWith, se_X7_aroundWith⟩
theorem mi_X7_atWith : MI yX7_atWith cX7_atWith 6 (some .int) RX7 2 := ⟨in_X7, co_X7_atWith, by decide⟩
theorem mv_X7_atWith : MV yX7_atWith RX7 := ⟨im_X7_atWith, se_X7_atWith⟩
theorem mi_X7_openAround : MI yX7_openAround cX7_openAround 3 (some .int) RX7 1 := ⟨in_X7, co_X7_openAround, by decide⟩
theorem mv_X7_openAround : MV yX7_openAround RX7 := ⟨im_X7_openAround, se_X7_openAround⟩
theorem mi_X7_openAt : MI yX7_openAt cX7_openAt 3 (some .int) RX7 1 := ⟨in_X7, co_X7_openAt, by decide⟩
theorem mv_X7_openAt : MV yX7_openAt RX7 := ⟨im_X7_openAt, se_X7_openAt⟩
theorem mi_X7_top : MI yX7_top cX7_top 3 (some .int) RX7 1 := ⟨in_X7, co_X7_top, by decide⟩
theorem mv_X7_top : MV yX7_top RX7 := ⟨im_X7_top, se_X7_top⟩
theorem mi_X7_joins : MI yX7_joins cX7_joins 6 none RX7 0 := ⟨in_X7, co_X7_joins, by decide⟩
theorem mv_X7_joins : MV yX7_joins RX7 := ⟨im_X7_joins, se_X7_joins⟩
theorem mi_X7_isRing : MI yX7_isRing cX7_isRing 2 (some .boolean) RX7 1 := ⟨in_X7, co_X7_isRing, by decide⟩
theorem mv_X7_isRing : MV yX7_isRing RX7 := ⟨im_X7_isRing, se_X7_isRing⟩
theorem mi_X7_areMet : MI yX7_areMet cX7_areMet 3 (some .boolean) RX7 0 := ⟨in_X7, co_X7_areMet, by decide⟩
theorem mv_X7_areMet : MV yX7_areMet RX7 := ⟨im_X7_areMet, se_X7_areMet⟩
theorem mi_X7_looks : MI yX7_looks cX7_looks 4 none RX7 0 := ⟨in_X7, co_X7_looks, by decide⟩
theorem mv_X7_looks : MV yX7_looks RX7 := ⟨im_X7_looks, se_X7_looks⟩
theorem mi_X7_fits : MI yX7_fits cX7_fits 1 (some .boolean) RX7 0 := ⟨in_X7, co_X7_fits, by decide⟩
theorem mv_X7_fits : MV yX7_fits RX7 := ⟨im_X7_fits, se_X7_fits⟩
theorem mi_X7_finds : MI yX7_finds cX7_finds 5 (some .boolean) RX7 4 := ⟨in_X7, co_X7_finds, by decide⟩
theorem mv_X7_finds : MV yX7_finds RX7 := ⟨im_X7_finds, se_X7_finds⟩
theorem mi_X7_byCells : MI yX7_byCells cX7_byCells 4 (some .boolean) RX7 1 := ⟨in_X7, co_X7_byCells, by decide⟩
theorem mv_X7_byCells : MV yX7_byCells RX7 := ⟨im_X7_byCells, se_X7_byCells⟩
theorem mi_X7_byCorners : MI yX7_byCorners cX7_byCorners 6 (some .boolean) RX7 1 := ⟨in_X7, co_X7_byCorners, by decide⟩
theorem mv_X7_byCorners : MV yX7_byCorners RX7 := ⟨im_X7_byCorners, se_X7_byCorners⟩
theorem mi_X7_byRings : MI yX7_byRings cX7_byRings 3 (some .boolean) RX7 0 := ⟨in_X7, co_X7_byRings, by decide⟩
theorem mv_X7_byRings : MV yX7_byRings RX7 := ⟨im_X7_byRings, se_X7_byRings⟩
theorem mi_X7_findsPlain : MI yX7_findsPlain cX7_findsPlain 5 (some .boolean) RX7 1 := ⟨in_X7, co_X7_findsPlain, by decide⟩
theorem mv_X7_findsPlain : MV yX7_findsPlain RX7 := ⟨im_X7_findsPlain, se_X7_findsPlain⟩
theorem mi_X7_makes : MI yX7_makes cX7_makes 1 none RX7 0 := ⟨in_X7, co_X7_makes, by decide⟩
theorem mv_X7_makes : MV yX7_makes RX7 := ⟨im_X7_makes, se_X7_makes⟩
theorem mi_X7_fails : MI yX7_fails cX7_fails 5 (some .boolean) RX7 2 := ⟨in_X7, co_X7_fails, by decide⟩
theorem mv_X7_fails : MV yX7_fails RX7 := ⟨im_X7_fails, se_X7_fails⟩
theorem mi_X7_byTrials : MI yX7_byTrials cX7_byTrials 3 (some .boolean) RX7 1 := ⟨in_X7, co_X7_byTrials, by decide⟩
theorem mv_X7_byTrials : MV yX7_byTrials RX7 := ⟨im_X7_byTrials, se_X7_byTrials⟩
theorem mi_X7_findsNext : MI yX7_findsNext cX7_findsNext 2 (some .boolean) RX7 1 := ⟨in_X7, co_X7_findsNext, by decide⟩
theorem mv_X7_findsNext : MV yX7_findsNext RX7 := ⟨im_X7_findsNext, se_X7_findsNext⟩
theorem mi_X7_type : MI yX7_type cX7_type 2 (some .int) RX7 1 := ⟨in_X7, co_X7_type, by decide⟩
theorem mv_X7_type : MV yX7_type RX7 := ⟨im_X7_type, se_X7_type⟩
theorem mi_X7_clearText : MI yX7_clearText cX7_clearText 2 (some .int) RX7 0 := ⟨in_X7, co_X7_clearText, by decide⟩
theorem mv_X7_clearText : MV yX7_clearText RX7 := ⟨im_X7_clearText, se_X7_clearText⟩
theorem mi_X7_next : MI yX7_next cX7_next 1 (some .int) RX7 0 := ⟨in_X7, co_X7_next, by decide⟩
theorem mv_X7_next : MV yX7_next RX7 := ⟨im_X7_next, se_X7_next⟩
theorem mi_X7_readsRow : MI yX7_readsRow cX7_readsRow 4 (some .boolean) RX7 2 := ⟨in_X7, co_X7_readsRow, by decide⟩
theorem mv_X7_readsRow : MV yX7_readsRow RX7 := ⟨im_X7_readsRow, se_X7_readsRow⟩
theorem mi_X7_reads : MI yX7_reads cX7_reads 3 none RX7 0 := ⟨in_X7, co_X7_reads, by decide⟩
theorem mv_X7_reads : MV yX7_reads RX7 := ⟨im_X7_reads, se_X7_reads⟩
theorem mi_X7_fault : MI yX7_fault cX7_fault 1 (some .int) RX7 0 := ⟨in_X7, co_X7_fault, by decide⟩
theorem mv_X7_fault : MV yX7_fault RX7 := ⟨im_X7_fault, se_X7_fault⟩
theorem mi_X7_setPuzzle : MI yX7_setPuzzle cX7_setPuzzle 2 (some .int) RX7 0 := ⟨in_X7, co_X7_setPuzzle, by decide⟩
theorem mv_X7_setPuzzle : MV yX7_setPuzzle RX7 := ⟨im_X7_setPuzzle, se_X7_setPuzzle⟩
theorem mi_X7_setCount : MI yX7_setCount cX7_setCount 4 (some .int) RX7 2 := ⟨in_X7, co_X7_setCount, by decide⟩
theorem mv_X7_setCount : MV yX7_setCount RX7 := ⟨im_X7_setCount, se_X7_setCount⟩
theorem mi_X7_mark : MI yX7_mark cX7_mark 4 (some .int) RX7 2 := ⟨in_X7, co_X7_mark, by decide⟩
theorem mv_X7_mark : MV yX7_mark RX7 := ⟨im_X7_mark, se_X7_mark⟩
theorem mi_X7_marked : MI yX7_marked cX7_marked 4 (some .int) RX7 1 := ⟨in_X7, co_X7_marked, by decide⟩
theorem mv_X7_marked : MV yX7_marked RX7 := ⟨im_X7_marked, se_X7_marked⟩
theorem mi_X7_wipe : MI yX7_wipe cX7_wipe 3 (some .int) RX7 0 := ⟨in_X7, co_X7_wipe, by decide⟩
theorem mv_X7_wipe : MV yX7_wipe RX7 := ⟨im_X7_wipe, se_X7_wipe⟩
theorem mi_X7_deduce : MI yX7_deduce cX7_deduce 1 (some .int) RX7 0 := ⟨in_X7, co_X7_deduce, by decide⟩
theorem mv_X7_deduce : MV yX7_deduce RX7 := ⟨im_X7_deduce, se_X7_deduce⟩
theorem mi_X7_deduceAll : MI yX7_deduceAll cX7_deduceAll 3 (some .int) RX7 1 := ⟨in_X7, co_X7_deduceAll, by decide⟩
theorem mv_X7_deduceAll : MV yX7_deduceAll RX7 := ⟨im_X7_deduceAll, se_X7_deduceAll⟩
theorem mi_X7_countOf : MI yX7_countOf cX7_countOf 2 (some .int) RX7 1 := ⟨in_X7, co_X7_countOf, by decide⟩
theorem mv_X7_countOf : MV yX7_countOf RX7 := ⟨im_X7_countOf, se_X7_countOf⟩
theorem mi_X7_edge : MI yX7_edge cX7_edge 2 (some .int) RX7 1 := ⟨in_X7, co_X7_edge, by decide⟩
theorem mv_X7_edge : MV yX7_edge RX7 := ⟨im_X7_edge, se_X7_edge⟩
theorem mi_X7_edgeAt : MI yX7_edgeAt cX7_edgeAt 6 (some .int) RX7 3 := ⟨in_X7, co_X7_edgeAt, by decide⟩
theorem mv_X7_edgeAt : MV yX7_edgeAt RX7 := ⟨im_X7_edgeAt, se_X7_edgeAt⟩
theorem mi_X7_misfit : MI yX7_misfit cX7_misfit 3 (some .int) RX7 1 := ⟨in_X7, co_X7_misfit, by decide⟩
theorem mv_X7_misfit : MV yX7_misfit RX7 := ⟨im_X7_misfit, se_X7_misfit⟩
theorem mi_X7_hint : MI yX7_hint cX7_hint 2 (some .int) RX7 1 := ⟨in_X7, co_X7_hint, by decide⟩
theorem mv_X7_hint : MV yX7_hint RX7 := ⟨im_X7_hint, se_X7_hint⟩
theorem mi_X7_way : MI yX7_way cX7_way 5 (some .int) RX7 2 := ⟨in_X7, co_X7_way, by decide⟩
theorem mv_X7_way : MV yX7_way RX7 := ⟨im_X7_way, se_X7_way⟩
theorem mi_X7_puts : MI yX7_puts cX7_puts 3 none RX7 1 := ⟨in_X7, co_X7_puts, by decide⟩
theorem mv_X7_puts : MV yX7_puts RX7 := ⟨im_X7_puts, se_X7_puts⟩
theorem mi_X7_takes : MI yX7_takes cX7_takes 3 none RX7 1 := ⟨in_X7, co_X7_takes, by decide⟩
theorem mv_X7_takes : MV yX7_takes RX7 := ⟨im_X7_takes, se_X7_takes⟩
theorem mi_X7_node : MI yX7_node cX7_node 2 (some .int) RX7 0 := ⟨in_X7, co_X7_node, by decide⟩
theorem mv_X7_node : MV yX7_node RX7 := ⟨im_X7_node, se_X7_node⟩
theorem mi_X7_searches : MI yX7_searches cX7_searches 4 none RX7 1 := ⟨in_X7, co_X7_searches, by decide⟩
theorem mv_X7_searches : MV yX7_searches RX7 := ⟨im_X7_searches, se_X7_searches⟩
theorem mi_X7_solutions : MI yX7_solutions cX7_solutions 2 (some .int) RX7 1 := ⟨in_X7, co_X7_solutions, by decide⟩
theorem mv_X7_solutions : MV yX7_solutions RX7 := ⟨im_X7_solutions, se_X7_solutions⟩
theorem mi_X7_nodes : MI yX7_nodes cX7_nodes 2 (some .int) RX7 1 := ⟨in_X7, co_X7_nodes, by decide⟩
theorem mv_X7_nodes : MV yX7_nodes RX7 := ⟨im_X7_nodes, se_X7_nodes⟩
theorem mi_X7_solved : MI yX7_solved cX7_solved 2 (some .int) RX7 1 := ⟨in_X7, co_X7_solved, by decide⟩
theorem mv_X7_solved : MV yX7_solved RX7 := ⟨im_X7_solved, se_X7_solved⟩
theorem mi_X7_gradeOf : MI yX7_gradeOf cX7_gradeOf 1 (some .int) RX7 1 := ⟨in_X7, co_X7_gradeOf, by decide⟩
theorem mi_X7_grade : MI yX7_grade cX7_grade 4 (some .int) RX7 0 := ⟨in_X7, co_X7_grade, by decide⟩
theorem mv_X7_grade : MV yX7_grade RX7 := ⟨im_X7_grade, se_X7_grade⟩
theorem mi_X7_counts : MI yX7_counts cX7_counts 3 (some .int) RX7 0 := ⟨in_X7, co_X7_counts, by decide⟩
theorem mv_X7_counts : MV yX7_counts RX7 := ⟨im_X7_counts, se_X7_counts⟩
theorem mi_X7_count : MI yX7_count cX7_count 2 (some .int) RX7 1 := ⟨in_X7, co_X7_count, by decide⟩
theorem mv_X7_count : MV yX7_count RX7 := ⟨im_X7_count, se_X7_count⟩
theorem mi_X7_mixes : MI yX7_mixes cX7_mixes 2 none RX7 1 := ⟨in_X7, co_X7_mixes, by decide⟩
theorem mv_X7_mixes : MV yX7_mixes RX7 := ⟨im_X7_mixes, se_X7_mixes⟩
theorem mi_X7_digest : MI yX7_digest cX7_digest 2 (some .long) RX7 0 := ⟨in_X7, co_X7_digest, by decide⟩
theorem mv_X7_digest : MV yX7_digest RX7 := ⟨im_X7_digest, se_X7_digest⟩
theorem mi_X0_fits : MI yX0_fits cX0_fits 1 (some .boolean) RX0 0 := ⟨in_X0, co_X0_fits, by decide⟩
theorem mv_X0_fits : MV yX0_fits RX0 := ⟨im_X0_fits, se_X0_fits⟩
theorem mi_X0_finished : MI yX0_finished cX0_finished 1 (some .boolean) RX0 0 := ⟨in_X0, co_X0_finished, by decide⟩
theorem mv_X0_finished : MV yX0_finished RX0 := ⟨im_X0_finished, se_X0_finished⟩
theorem mi_X0_markOf : MI yX0_markOf cX0_markOf 2 (some .int) RX0 1 := ⟨in_X0, co_X0_markOf, by decide⟩
theorem mv_X0_markOf : MV yX0_markOf RX0 := ⟨im_X0_markOf, se_X0_markOf⟩
theorem mi_X0_begin : MI yX0_begin cX0_begin 6 none RX0 2 := ⟨in_X0, co_X0_begin, by decide⟩
theorem mv_X0_begin : MV yX0_begin RX0 := ⟨im_X0_begin, se_X0_begin⟩
theorem mi_X0_copyFrom : MI yX0_copyFrom cX0_copyFrom 3 none RX0 1 := ⟨in_X0, co_X0_copyFrom, by decide⟩
theorem mv_X0_copyFrom : MV yX0_copyFrom RX0 := ⟨im_X0_copyFrom, se_X0_copyFrom⟩
theorem mi_X0_settleEdge : MI yX0_settleEdge cX0_settleEdge 5 none RX0 2 := ⟨in_X0, co_X0_settleEdge, by decide⟩
theorem mv_X0_settleEdge : MV yX0_settleEdge RX0 := ⟨im_X0_settleEdge, se_X0_settleEdge⟩
theorem mi_X0_lookAtCell : MI yX0_lookAtCell cX0_lookAtCell 5 none RX0 1 := ⟨in_X0, co_X0_lookAtCell, by decide⟩
theorem mv_X0_lookAtCell : MV yX0_lookAtCell RX0 := ⟨im_X0_lookAtCell, se_X0_lookAtCell⟩
theorem mi_X0_lookAtCorner : MI yX0_lookAtCorner cX0_lookAtCorner 4 none RX0 1 := ⟨in_X0, co_X0_lookAtCorner, by decide⟩
theorem mv_X0_lookAtCorner : MV yX0_lookAtCorner RX0 := ⟨im_X0_lookAtCorner, se_X0_lookAtCorner⟩
theorem mi_X0_lookAtRings : MI yX0_lookAtRings cX0_lookAtRings 6 none RX0 0 := ⟨in_X0, co_X0_lookAtRings, by decide⟩
theorem mv_X0_lookAtRings : MV yX0_lookAtRings RX0 := ⟨im_X0_lookAtRings, se_X0_lookAtRings⟩
theorem mi_X0_lookAtWay : MI yX0_lookAtWay cX0_lookAtWay 3 none RX0 1 := ⟨in_X0, co_X0_lookAtWay, by decide⟩
theorem mv_X0_lookAtWay : MV yX0_lookAtWay RX0 := ⟨im_X0_lookAtWay, se_X0_lookAtWay⟩
theorem mi_X0_wayOf : MI yX0_wayOf cX0_wayOf 11 (some .long) RX0 1 := ⟨in_X0, co_X0_wayOf, by decide⟩
theorem mv_X0_wayOf : MV yX0_wayOf RX0 := ⟨im_X0_wayOf, se_X0_wayOf⟩
theorem mi_X0_isRing : MI yX0_isRing cX0_isRing 5 (some .boolean) RX0 1 := ⟨in_X0, co_X0_isRing, by decide⟩
theorem mv_X0_isRing : MV yX0_isRing RX0 := ⟨im_X0_isRing, se_X0_isRing⟩
theorem mi_X0_findAtPlace : MI yX0_findAtPlace cX0_findAtPlace 7 (some .boolean) RX0 1 := ⟨in_X0, co_X0_findAtPlace, by decide⟩
theorem mv_X0_findAtPlace : MV yX0_findAtPlace RX0 := ⟨im_X0_findAtPlace, se_X0_findAtPlace⟩
theorem mi_X0_findClosing : MI yX0_findClosing cX0_findClosing 11 (some .boolean) RX0 0 := ⟨in_X0, co_X0_findClosing, by decide⟩
theorem mv_X0_findClosing : MV yX0_findClosing RX0 := ⟨im_X0_findClosing, se_X0_findClosing⟩
theorem mi_X0_drawnAtEnd : MI yX0_drawnAtEnd cX0_drawnAtEnd 4 (some .long) RX0 2 := ⟨in_X0, co_X0_drawnAtEnd, by decide⟩
theorem mv_X0_drawnAtEnd : MV yX0_drawnAtEnd RX0 := ⟨im_X0_drawnAtEnd, se_X0_drawnAtEnd⟩
theorem mi_X0_meetsCounts : MI yX0_meetsCounts cX0_meetsCounts 5 (some .boolean) RX0 1 := ⟨in_X0, co_X0_meetsCounts, by decide⟩
theorem mv_X0_meetsCounts : MV yX0_meetsCounts RX0 := ⟨im_X0_meetsCounts, se_X0_meetsCounts⟩
theorem mi_X0_found : MI yX0_found cX0_found 4 none RX0 3 := ⟨in_X0, co_X0_found, by decide⟩
theorem mv_X0_found : MV yX0_found RX0 := ⟨im_X0_found, se_X0_found⟩
theorem mi_X0_makeFound : MI yX0_makeFound cX0_makeFound 1 none RX0 0 := ⟨in_X0, co_X0_makeFound, by decide⟩
theorem mv_X0_makeFound : MV yX0_makeFound RX0 := ⟨im_X0_makeFound, se_X0_makeFound⟩
theorem mi_X0_settle : MI yX0_settle cX0_settle 2 none RX0 0 := ⟨in_X0, co_X0_settle, by decide⟩
theorem mv_X0_settle : MV yX0_settle RX0 := ⟨im_X0_settle, se_X0_settle⟩
theorem mi_X1_hasCell : MI yX1_hasCell cX1_hasCell 2 (some .boolean) RX1 1 := ⟨in_X1, co_X1_hasCell, by decide⟩
theorem mv_X1_hasCell : MV yX1_hasCell RX1 := ⟨im_X1_hasCell, se_X1_hasCell⟩
theorem mi_X1_hasCorner : MI yX1_hasCorner cX1_hasCorner 2 (some .boolean) RX1 1 := ⟨in_X1, co_X1_hasCorner, by decide⟩
theorem mv_X1_hasCorner : MV yX1_hasCorner RX1 := ⟨im_X1_hasCorner, se_X1_hasCorner⟩
theorem mi_X1_hasEdge : MI yX1_hasEdge cX1_hasEdge 2 (some .boolean) RX1 1 := ⟨in_X1, co_X1_hasEdge, by decide⟩
theorem mv_X1_hasEdge : MV yX1_hasEdge RX1 := ⟨im_X1_hasEdge, se_X1_hasEdge⟩
theorem mi_X1_allEdges : MI yX1_allEdges cX1_allEdges 1 (some .long) RX1 0 := ⟨in_X1, co_X1_allEdges, by decide⟩
theorem mv_X1_allEdges : MV yX1_allEdges RX1 := ⟨im_X1_allEdges, se_X1_allEdges⟩
theorem mi_X1_countedCells : MI yX1_countedCells cX1_countedCells 3 (some .int) RX1 0 := ⟨in_X1, co_X1_countedCells, by decide⟩
theorem mv_X1_countedCells : MV yX1_countedCells RX1 := ⟨im_X1_countedCells, se_X1_countedCells⟩
theorem mi_X1_lay : MI yX1_lay cX1_lay 5 none RX1 2 := ⟨in_X1, co_X1_lay, by decide⟩
theorem mv_X1_lay : MV yX1_lay RX1 := ⟨im_X1_lay, se_X1_lay⟩
theorem mi_X1_layEdgesFrom : MI yX1_layEdgesFrom cX1_layEdgesFrom 6 none RX1 2 := ⟨in_X1, co_X1_layEdgesFrom, by decide⟩
theorem mv_X1_layEdgesFrom : MV yX1_layEdgesFrom RX1 := ⟨im_X1_layEdgesFrom, se_X1_layEdgesFrom⟩
theorem mi_X1_cellAt : MI yX1_cellAt cX1_cellAt 4 (some .int) RX1 2 := ⟨in_X1, co_X1_cellAt, by decide⟩
theorem mv_X1_cellAt : MV yX1_cellAt RX1 := ⟨im_X1_cellAt, se_X1_cellAt⟩
theorem mi_X1_layEdge : MI yX1_layEdge cX1_layEdge 8 none RX1 5 := ⟨in_X1, co_X1_layEdge, by decide⟩
theorem mv_X1_layEdge : MV yX1_layEdge RX1 := ⟨im_X1_layEdge, se_X1_layEdge⟩
theorem mi_X2_keep : MI yX2_keep cX2_keep 6 none RX2 3 := ⟨in_X2, co_X2_keep, by decide⟩
theorem mv_X2_keep : MV yX2_keep RX2 := ⟨im_X2_keep, se_X2_keep⟩
theorem mi_X2_restore : MI yX2_restore cX2_restore 6 none RX2 3 := ⟨in_X2, co_X2_restore, by decide⟩
theorem mv_X2_restore : MV yX2_restore RX2 := ⟨im_X2_restore, se_X2_restore⟩
theorem mi_X3_run : MI yX3_run cX3_run 4 none RX3 2 := ⟨in_X3, co_X3_run, by decide⟩
theorem mv_X3_run : MV yX3_run RX3 := ⟨im_X3_run, se_X3_run⟩
theorem mi_X3_nodesTold : MI yX3_nodesTold cX3_nodesTold 1 (some .int) RX3 0 := ⟨in_X3, co_X3_nodesTold, by decide⟩
theorem mv_X3_nodesTold : MV yX3_nodesTold RX3 := ⟨im_X3_nodesTold, se_X3_nodesTold⟩
theorem mi_X3_goOn : MI yX3_goOn cX3_goOn 3 none RX3 0 := ⟨in_X3, co_X3_goOn, by decide⟩
theorem mv_X3_goOn : MV yX3_goOn RX3 := ⟨im_X3_goOn, se_X3_goOn⟩
theorem mi_X3_push : MI yX3_push cX3_push 5 none RX3 2 := ⟨in_X3, co_X3_push, by decide⟩
theorem mv_X3_push : MV yX3_push RX3 := ⟨im_X3_push, se_X3_push⟩
theorem mi_X4_findNext : MI yX4_findNext cX4_findNext 6 (some .boolean) RX4 2 := ⟨in_X4, co_X4_findNext, by decide⟩
theorem mv_X4_findNext : MV yX4_findNext RX4 := ⟨im_X4_findNext, se_X4_findNext⟩
theorem mi_X4_greatestGrade : MI yX4_greatestGrade cX4_greatestGrade 3 (some .int) RX4 0 := ⟨in_X4, co_X4_greatestGrade, by decide⟩
theorem mv_X4_greatestGrade : MV yX4_greatestGrade RX4 := ⟨im_X4_greatestGrade, se_X4_greatestGrade⟩
theorem mi_X5_append : MI yX5_append cX5_append 2 (some .int) RX5 1 := ⟨in_X5, co_X5_append, by decide⟩
theorem mv_X5_append : MV yX5_append RX5 := ⟨im_X5_append, se_X5_append⟩
theorem mi_X5_read : MI yX5_read cX5_read 4 (some .int) RX5 0 := ⟨in_X5, co_X5_read, by decide⟩
theorem mv_X5_read : MV yX5_read RX5 := ⟨im_X5_read, se_X5_read⟩
theorem mi_X5_beginRow : MI yX5_beginRow cX5_beginRow 1 (some .boolean) RX5 0 := ⟨in_X5, co_X5_beginRow, by decide⟩
theorem mv_X5_beginRow : MV yX5_beginRow RX5 := ⟨im_X5_beginRow, se_X5_beginRow⟩
theorem mi_X5_addCell : MI yX5_addCell cX5_addCell 3 (some .boolean) RX5 1 := ⟨in_X5, co_X5_addCell, by decide⟩
theorem mv_X5_addCell : MV yX5_addCell RX5 := ⟨im_X5_addCell, se_X5_addCell⟩
theorem mi_X5_rowIsWhole : MI yX5_rowIsWhole cX5_rowIsWhole 1 (some .boolean) RX5 0 := ⟨in_X5, co_X5_rowIsWhole, by decide⟩
theorem mv_X5_rowIsWhole : MV yX5_rowIsWhole RX5 := ⟨im_X5_rowIsWhole, se_X5_rowIsWhole⟩
theorem mi_X5_isCell : MI yX5_isCell cX5_isCell 1 (some .boolean) RX5 1 := ⟨in_X5, co_X5_isCell, by decide⟩
theorem mi_J13_bitCount_95d88 : MI yJ13_bitCount_95d88 cJ13_bitCount_95d88 2 (some .int) RJ13 1 := ⟨in_JLong, co_J13_bitCount_95d88, by decide⟩
theorem mi_J9_floorMod_7cf53 : MI yJ9_floorMod_7cf53 cJ9_floorMod_7cf53 3 (some .int) RJ9 2 := ⟨in_JMath, co_J9_floorMod_7cf53, by decide⟩
theorem mi_J9_max_7cf53 : MI yJ9_max_7cf53 cJ9_max_7cf53 2 (some .int) RJ9 2 := ⟨in_JMath, co_J9_max_7cf53, by decide⟩
theorem mi_J9_min_7cf53 : MI yJ9_min_7cf53 cJ9_min_7cf53 2 (some .int) RJ9 2 := ⟨in_JMath, co_J9_min_7cf53, by decide⟩
