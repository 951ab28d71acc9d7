/-! contracts over a world, and calls -/
def PcW (K : vK) (N : Nat) (ad : Nat → Nat) (cf : vCf) (av : List Value) (σ : vSt) (sz : Nat) : Array Value → State → Prop := va_Pc av (fun U => U.heap.size = sz ∧ va_P K.1 vwCl (wG N ad cf σ) U.heap ∧ va_K K.1 vwCl (tysK K) U ∧ Amb (AA N ad sz) U U.heap)
def BW (K : vK) (N : Nat) (ad : Nat → Nat) (cf : vCf) (u : vSt) (t : State) : Prop := va_P K.1 vwCl (wG N ad cf u) t.heap
def wsY (y : MethodName) (cc : ByteArray) (nL : Nat) (ret : Option FieldType) : List Cond := .code y cc nL ret :: gtbl
def QCi (K : vK) (N : Nat) (ad : Nat → Nat) (cf : vCf) (r : Int32) (σ' : vSt) (sz : Nat) := va_Qi (fun (r1 : Int32) (u : vSt) => r1 = r ∧ u = σ') (BW K N ad cf) (AA N ad sz)
def QCz (K : vK) (N : Nat) (ad : Nat → Nat) (cf : vCf) (r : Int32) (σ' : vSt) (sz : Nat) := va_Qi (fun (r1 : Int32) (u : vSt) => (r1 = r ∧ u = σ') ∧ (r = 0 ∨ r = 1)) (BW K N ad cf) (AA N ad sz)
def QCl (K : vK) (N : Nat) (ad : Nat → Nat) (cf : vCf) (r : Int64) (σ' : vSt) (sz : Nat) := va_Ql (fun (r1 : Int64) (u : vSt) => r1 = r ∧ u = σ') (BW K N ad cf) (AA N ad sz)
def QCv (K : vK) (N : Nat) (ad : Nat → Nat) (cf : vCf) (σ' : vSt) (sz : Nat) := va_Qv (fun (u : vSt) => u = σ') (BW K N ad cf) (AA N ad sz)
def MCi (l : Launch) (y : MethodName) (ws : List Cond) (rm : Room) (K : vK) (N : Nat) (ad : Nat → Nat) (cf : vCf) (av : List Value) (σ : vSt) (r : Int32) (σ' : vSt) : Prop := ∀ sz, Met l y ws rm (PcW K N ad cf av σ sz) (QCi K N ad cf r σ' sz) 0 0 (AA N ad sz)
def MCz (l : Launch) (y : MethodName) (ws : List Cond) (rm : Room) (K : vK) (N : Nat) (ad : Nat → Nat) (cf : vCf) (av : List Value) (σ : vSt) (r : Int32) (σ' : vSt) : Prop := ∀ sz, Met l y ws rm (PcW K N ad cf av σ sz) (QCz K N ad cf r σ' sz) 0 0 (AA N ad sz)
def MCl (l : Launch) (y : MethodName) (ws : List Cond) (rm : Room) (K : vK) (N : Nat) (ad : Nat → Nat) (cf : vCf) (av : List Value) (σ : vSt) (r : Int64) (σ' : vSt) : Prop := ∀ sz, Met l y ws rm (PcW K N ad cf av σ sz) (QCl K N ad cf r σ' sz) 0 0 (AA N ad sz)
def MCv (l : Launch) (y : MethodName) (ws : List Cond) (rm : Room) (K : vK) (N : Nat) (ad : Nat → Nat) (cf : vCf) (av : List Value) (σ σ' : vSt) : Prop := ∀ sz, Met l y ws rm (PcW K N ad cf av σ sz) (QCv K N ad cf σ' sz) 0 0 (AA N ad sz)
/-- a world of no cells, for what is static -/
def ad_0 : Nat → Nat := fun _ => 0
def cf_0 : vCf := fun _ _ _ => .inr (0, [])
def st_0 : vSt := (fun _ _ => 0, fun _ _ => 0)
abbrev rmF (f k : Nat) : Room := { frames := f, cells := 0, slots := 0, locals := k }
theorem MC_of {l : Launch} {y : MethodName} {cc : ByteArray} {nL : Nat} {ret : Option FieldType} {own : String} {rm : Room} {K : vK} {N : Nat} {ad : Nat → Nat} {cf : vCf} {av : List Value} {σ : vSt} (Qc : Nat → Array Value → State → Outcome → State → Prop) (hy : plainFor y = true) (hI : adInj N ad) (ho : y.cls = own) (hav : (lg_sl av).length ≤ nL)
    (body : ∀ (p : Program) (e : Env) (s : State) (m : MethodId) (args : Array Value) (below : List Frame) (meth : Method) (c : Code) (A : Nat → Prop), EC p s m args c cc nL gtbl own K N ad cf A → meth.sig.returnType = ret → meth.locks = false → A = AA N ad s.heap.size → PW K N ad cf A s.heap σ s.heap [] → ∀ ls : Array Slot, lv_has ls nL (lv_args 0 av) → W p l e rm s m args below meth c s.heap [] 0 0 (MQ below (Qc s.heap.size) args s 0 0 A) (F0 m 0 ls [])) (sz : Nat) :
    Met l y (wsY y cc nL ret) rm (PcW K N ad cf av σ sz) (Qc sz) 0 0 (AA N ad sz) := by
  refine va_MetF (cc := cc) (maxL := nL) (ret := ret) hy rfl ?_
  intro p e s m args below meth c s₁ B hml hv
  obtain ⟨rfl, hsz, hP, hK, hAm⟩ := hv
  have hts := atoms_spec (ws := wsY y cc nL ret) B.pre
  have hown : s.vm.findClass own = some m.cls := by rw [← ho]; exact findClass_of_methodNamed B.named
  subst hsz
  have hl := lv_entry av (n := nL) hav
  rw [lg_entry_eq]
  refine body p e s m _ below meth c (AA N ad s.heap.size) ⟨B.exec, B.bytes, hml, hown, fun w hw => hts w (List.mem_cons_of_mem _ hw), hK, wG_D hI (fun k hk => Or.inl ⟨k, hk, rfl⟩), fun q => Iff.rfl, hAm⟩ B.returns B.notSynchronized rfl ⟨hP, va_S.rf⟩ _ hl
/-- a method's own words -/
def MI (y : MethodName) (cc : ByteArray) (nL : Nat) (ret : Option FieldType) (C : String) (n : Nat) : Prop := Cond.initialized C ∈ gtbl ∧ Cond.code y cc nL ret ∈ gtbl ∧ (y.cls = C ∧ y.cls ≠ "java/lang/invoke/MethodHandle" ∧ y.cls ≠ "java/lang/invoke/VarHandle" ∧ (parseMethodDescriptor y.desc).map (fun d => d.parameters.length) = some n)
def MV (y : MethodName) (C : String) : Prop := Cond.instanceMethod y ∈ gtbl ∧ Cond.selects C y y ∈ gtbl
theorem gd_Y {y : MethodName} {cc : ByteArray} {nL : Nat} {ret : Option FieldType} (h : Cond.code y cc nL ret ∈ gtbl) : GoodIn gtbl (wsY y cc nL ret) := by
  intro w hw
  rcases List.mem_cons.mp hw with rfl | h2
  · exact ⟨h, good_of_word (gtbl_good h)⟩
  · exact ⟨h2, good_of_word (gtbl_good h2)⟩
theorem gd_V {y : MethodName} {cc : ByteArray} {nL : Nat} {ret : Option FieldType} {own C : String} {index n : Nat} (h1 : MI y cc nL ret C n) (h2 : MV y C) (h3 : Cond.methodLink own index y ∈ gtbl) : GoodIn gtbl (wsV own index C y (wsY y cc nL ret)) := by
  intro w hw
  have k : ∀ {w : Cond}, w ∈ gtbl → w ∈ gtbl ∧ ((w.onTables && w.keeps) = true ∨ ∃ ty, w = .arrayClass ty) := fun h => ⟨h, good_of_word (gtbl_good h)⟩
  unfold wsV at hw
  rcases List.mem_append.mp hw with h | h
  · simp only [List.mem_cons, List.not_mem_nil, or_false] at h
    rcases h with rfl | rfl | rfl | rfl
    · exact k h3
    · exact k h2.1
    · exact k h2.2
    · exact k h1.1
  · exact gd_Y h1.2.1 w h
theorem gd_S {y : MethodName} {cc : ByteArray} {nL : Nat} {ret : Option FieldType} {own C : String} {index n : Nat} (h1 : MI y cc nL ret C n) (h2 : Cond.static y ∈ gtbl) (h3 : Cond.methodLink own index y ∈ gtbl) : GoodIn gtbl (va_wsS own index y (wsY y cc nL ret)) := by
  intro w hw
  have k : ∀ {w : Cond}, w ∈ gtbl → w ∈ gtbl ∧ ((w.onTables && w.keeps) = true ∨ ∃ ty, w = .arrayClass ty) := fun h => ⟨h, good_of_word (gtbl_good h)⟩
  unfold va_wsS at hw
  rcases List.mem_append.mp hw with h | h
  · simp only [List.mem_cons, List.not_mem_nil, or_false] at h
    rcases h with rfl | rfl | rfl
    · exact k h3
    · exact k h2
    · rw [h1.2.2.1]; exact k h1.1
  · exact gd_Y h1.2.1 w h
theorem PcW_blind {K : vK} {N : Nat} {ad : Nat → Nat} {cf : vCf} {av : List Value} {σ : vSt} {sz : Nat} : FrameBlind (PcW K N ad cf av σ sz) := by
  intro a U g mk q
  obtain ⟨q0, q1, qP, qK, qA⟩ := q
  exact ⟨q0, q1, qP, va_K.moved (u := U) (U := U.calling g mk a) (Vm.Alike.refl U.vm) qK, Amb.same (u := U) (U := U.calling g mk a) rfl qA⟩
section KV
variable {p : Program} {l : Launch} {e : Env} {R : Room} {s : State} {m : MethodId} {args : Array Value} {below : List Frame} {meth : Method} {c : Code} {H : Heap} {locs : List Loc} {cells slots : Nat} {Q : State → Prop}
variable {cc : ByteArray} {nL : Nat} {own : String} {K : vK} {N : Nat} {ad : Nat → Nat} {cf : vCf} {A : Nat → Prop} {σ : vSt} {pc : Nat} {ls : Array Slot} {rest : List Value}
theorem AA_sub (E : EC p s m args c cc nL gtbl own K N ad cf A) (hS : va_S A s.heap H locs) : ∀ q, AA N ad H.size q → A q := by
  intro q h
  refine (E.2.2.2.2.2.2.2.1 q).mpr ?_
  rcases h with h | h
  · exact Or.inl h
  · exact Or.inr (Nat.le_trans hS.1 h)
theorem AA_sub0 (E : EC p s m args c cc nL gtbl own K N ad cf A) (hS : va_S A s.heap H locs) : ∀ q, AA 0 ad_0 H.size q → A q := by
  intro q h
  refine (E.2.2.2.2.2.2.2.1 q).mpr ?_
  rcases h with ⟨k, h, -⟩ | h
  · exact absurd h (Nat.not_lt_zero k)
  · exact Or.inr (Nat.le_trans hS.1 h)
theorem Amb_at (E : EC p s m args c cc nL gtbl own K N ad cf A) (hS : va_S A s.heap H locs) {B : Nat → Prop} (hB : ∀ q, B q → A q) {U : State} (hU : U.heap = H) (hW : s.WarmedH U.vm) : Amb B U U.heap := by
  rw [hU]
  exact Amb.narrow (Amb.kept (Amb.warm hW E.2.2.2.2.2.2.2.2) hS.2.1) hB
theorem PcW_at (E : EC p s m args c cc nL gtbl own K N ad cf A) (hw : PW K N ad cf A s.heap σ H locs) {av : List Value} : ∀ U : State, U.heap = H → s.WarmedH U.vm → PcW K N ad cf av σ H.size av.toArray U := fun U hU hW => ⟨rfl, by rw [hU], by rw [hU]; exact hw.1, va_K.moved hW.alike E.2.2.2.2.2.1, Amb_at E hw.2 (AA_sub E hw.2) hU hW⟩
theorem PcW_at0 (E : EC p s m args c cc nL gtbl own K N ad cf A) (hw : PW K N ad cf A s.heap σ H locs) {av : List Value} : ∀ U : State, U.heap = H → s.WarmedH U.vm → PcW K 0 ad_0 cf_0 av st_0 H.size av.toArray U := fun U hU hW => ⟨rfl, by rw [hU], (fun k q h => by cases h), va_K.moved hW.alike E.2.2.2.2.2.1, Amb_at E hw.2 (AA_sub0 E hw.2) hU hW⟩
theorem PW_kept (E : EC p s m args c cc nL gtbl own K N ad cf A) (hw : PW K N ad cf A s.heap σ H locs) {H1 : Heap} {locs1 : List Loc} (hk : ∀ q : Nat, q < H.size → ¬ AA 0 ad_0 H.size q → H1[q]? = H[q]?) (hS : va_S A s.heap H1 locs1) : PW K N ad cf A s.heap σ H1 locs1 := by
  refine ⟨fun k q hq => ?_, hS⟩
  refine (hw.1 k q hq).kept (hk q.1 (hw.1 k q hq).lt ?_)
  rintro (⟨j, h, -⟩ | h)
  · exact absurd h (Nat.not_lt_zero j)
  · exact absurd (hw.1 k q hq).lt (Nat.not_lt.mpr h)
variable {y : MethodName} {cb : ByteArray} {maxL index n q ci k : Nat} {rm : Room} {As st : List Value} {σ' : vSt} {C : String} {fs : List Value} {T : u_T}
theorem kV_i {r : Int32} (E : EC p s m args c cc nL gtbl own K N ad cf A) (hw : PW K N ad cf A s.heap σ H locs) (hM : MCi l y (wsY y cb maxL (some .int)) rm K N ad cf (.ref (ad q) :: As) σ r σ') (h1 : MI y cb maxL (some .int) C n) (h2 : MV y C) (h3 : Cond.methodLink own index y ∈ gtbl) (hq : q < N) (he : cf q (σ.1 q) (σ.2 q) = .inr (ci, fs)) (hc : vwCl[ci]? = some (C, T, k)) (hn : As.length = n) (hR : (rm.frames + 1 ≤ R.frames ∧ 8 + (maxL + 11) + rm.locals ≤ R.locals) ∧ rm.cells = 0 ∧ rm.slots = 0) (hf : cells ≤ R.cells ∧ slots ≤ R.slots) (hls : ls.size = nL) (hst : st = As.reverse ++ .ref (ad q) :: rest) (hro : (rest.map fun v => v.category).sum ≤ 8) (hdg : decode cc pc = .ok (.invokevirtual index, 3))
    (kk : ∀ (H1 : Heap) (locs1 : List Loc), PW K N ad cf A s.heap σ' H1 locs1 → W p l e R s m args below meth c H1 locs1 cells slots Q (F0 m (pc + 3) ls (.int r :: rest))) : W p l e R s m args below meth c H locs cells slots Q (F0 m pc ls st) := by
  have hx := E.1
  have hK := E.2.2.2.2.2.1
  refine va_calli (va_runV (As := As) (rest := rest) ⟨E.1, E.2.1, E.2.2.1, E.2.2.2.1, E.2.2.2.2.1⟩ (hM H.size) (cwV n E.2.2.2.2.1 (gd_V h1 h2 h3) rfl hR.2.1 hR.2.2 h1.2.2 hR.1) ⟨PcW_blind, va_recv hK hw.1 (ci := ci) (q0 := q) hc (by rw [wG_at hq, he]), PcW_at E hw⟩ rfl hn hls hst (lv_room hro) hdg ⟨hf.1, hf.2⟩) hw.2 (fun q _ h => AA_sub E hw.2 q h) (AA_sub E hw.2) (fun r1 u t H1 locs1 ht hvm hp hB hz hk hS => ?_)
  obtain ⟨rfl, rfl⟩ := hp
  exact kk H1 locs1 ⟨by rw [← ht]; exact hB, hS⟩
theorem kV_z {r : Int32} (E : EC p s m args c cc nL gtbl own K N ad cf A) (hw : PW K N ad cf A s.heap σ H locs) (hM : MCz l y (wsY y cb maxL (some .boolean)) rm K N ad cf (.ref (ad q) :: As) σ r σ') (h1 : MI y cb maxL (some .boolean) C n) (h2 : MV y C) (h3 : Cond.methodLink own index y ∈ gtbl) (hq : q < N) (he : cf q (σ.1 q) (σ.2 q) = .inr (ci, fs)) (hc : vwCl[ci]? = some (C, T, k)) (hn : As.length = n) (hR : (rm.frames + 1 ≤ R.frames ∧ 8 + (maxL + 11) + rm.locals ≤ R.locals) ∧ rm.cells = 0 ∧ rm.slots = 0) (hf : cells ≤ R.cells ∧ slots ≤ R.slots) (hls : ls.size = nL) (hst : st = As.reverse ++ .ref (ad q) :: rest) (hro : (rest.map fun v => v.category).sum ≤ 8) (hdg : decode cc pc = .ok (.invokevirtual index, 3))
    (kk : (r = 0 ∨ r = 1) → ∀ (H1 : Heap) (locs1 : List Loc), PW K N ad cf A s.heap σ' H1 locs1 → W p l e R s m args below meth c H1 locs1 cells slots Q (F0 m (pc + 3) ls (.int r :: rest))) : W p l e R s m args below meth c H locs cells slots Q (F0 m pc ls st) := by
  have hx := E.1
  have hK := E.2.2.2.2.2.1
  refine va_calli (va_runV (As := As) (rest := rest) ⟨E.1, E.2.1, E.2.2.1, E.2.2.2.1, E.2.2.2.2.1⟩ (hM H.size) (cwV n E.2.2.2.2.1 (gd_V h1 h2 h3) rfl hR.2.1 hR.2.2 h1.2.2 hR.1) ⟨PcW_blind, va_recv hK hw.1 (ci := ci) (q0 := q) hc (by rw [wG_at hq, he]), PcW_at E hw⟩ rfl hn hls hst (lv_room hro) hdg ⟨hf.1, hf.2⟩) hw.2 (fun q _ h => AA_sub E hw.2 q h) (AA_sub E hw.2) (fun r1 u t H1 locs1 ht hvm hp hB hz hk hS => ?_)
  obtain ⟨⟨rfl, rfl⟩, hp2⟩ := hp
  exact kk hp2 H1 locs1 ⟨by rw [← ht]; exact hB, hS⟩
theorem kV_l {r : Int64} (E : EC p s m args c cc nL gtbl own K N ad cf A) (hw : PW K N ad cf A s.heap σ H locs) (hM : MCl l y (wsY y cb maxL (some .long)) rm K N ad cf (.ref (ad q) :: As) σ r σ') (h1 : MI y cb maxL (some .long) C n) (h2 : MV y C) (h3 : Cond.methodLink own index y ∈ gtbl) (hq : q < N) (he : cf q (σ.1 q) (σ.2 q) = .inr (ci, fs)) (hc : vwCl[ci]? = some (C, T, k)) (hn : As.length = n) (hR : (rm.frames + 1 ≤ R.frames ∧ 8 + (maxL + 11) + rm.locals ≤ R.locals) ∧ rm.cells = 0 ∧ rm.slots = 0) (hf : cells ≤ R.cells ∧ slots ≤ R.slots) (hls : ls.size = nL) (hst : st = As.reverse ++ .ref (ad q) :: rest) (hro : (rest.map fun v => v.category).sum ≤ 8) (hdg : decode cc pc = .ok (.invokevirtual index, 3))
    (kk : ∀ (H1 : Heap) (locs1 : List Loc), PW K N ad cf A s.heap σ' H1 locs1 → W p l e R s m args below meth c H1 locs1 cells slots Q (F0 m (pc + 3) ls (.long r :: rest))) : W p l e R s m args below meth c H locs cells slots Q (F0 m pc ls st) := by
  have hx := E.1
  have hK := E.2.2.2.2.2.1
  refine va_calll (va_runV (As := As) (rest := rest) ⟨E.1, E.2.1, E.2.2.1, E.2.2.2.1, E.2.2.2.2.1⟩ (hM H.size) (cwV n E.2.2.2.2.1 (gd_V h1 h2 h3) rfl hR.2.1 hR.2.2 h1.2.2 hR.1) ⟨PcW_blind, va_recv hK hw.1 (ci := ci) (q0 := q) hc (by rw [wG_at hq, he]), PcW_at E hw⟩ rfl hn hls hst (lv_room hro) hdg ⟨hf.1, hf.2⟩) hw.2 (fun q _ h => AA_sub E hw.2 q h) (AA_sub E hw.2) (fun r1 u t H1 locs1 ht hvm hp hB hz hk hS => ?_)
  obtain ⟨rfl, rfl⟩ := hp
  exact kk H1 locs1 ⟨by rw [← ht]; exact hB, hS⟩
theorem kV_v (E : EC p s m args c cc nL gtbl own K N ad cf A) (hw : PW K N ad cf A s.heap σ H locs) (hM : MCv l y (wsY y cb maxL none) rm K N ad cf (.ref (ad q) :: As) σ σ') (h1 : MI y cb maxL none C n) (h2 : MV y C) (h3 : Cond.methodLink own index y ∈ gtbl) (hq : q < N) (he : cf q (σ.1 q) (σ.2 q) = .inr (ci, fs)) (hc : vwCl[ci]? = some (C, T, k)) (hn : As.length = n) (hR : (rm.frames + 1 ≤ R.frames ∧ 8 + (maxL + 11) + rm.locals ≤ R.locals) ∧ rm.cells = 0 ∧ rm.slots = 0) (hf : cells ≤ R.cells ∧ slots ≤ R.slots) (hls : ls.size = nL) (hst : st = As.reverse ++ .ref (ad q) :: rest) (hro : (rest.map fun v => v.category).sum ≤ 8) (hdg : decode cc pc = .ok (.invokevirtual index, 3))
    (kk : ∀ (H1 : Heap) (locs1 : List Loc), PW K N ad cf A s.heap σ' H1 locs1 → W p l e R s m args below meth c H1 locs1 cells slots Q (F0 m (pc + 3) ls rest)) : W p l e R s m args below meth c H locs cells slots Q (F0 m pc ls st) := by
  have hx := E.1
  have hK := E.2.2.2.2.2.1
  refine va_callv (va_runV (As := As) (rest := rest) ⟨E.1, E.2.1, E.2.2.1, E.2.2.2.1, E.2.2.2.2.1⟩ (hM H.size) (cwV n E.2.2.2.2.1 (gd_V h1 h2 h3) rfl hR.2.1 hR.2.2 h1.2.2 hR.1) ⟨PcW_blind, va_recv hK hw.1 (ci := ci) (q0 := q) hc (by rw [wG_at hq, he]), PcW_at E hw⟩ rfl hn hls hst (lv_room hro) hdg ⟨hf.1, hf.2⟩) hw.2 (fun q _ h => AA_sub E hw.2 q h) (AA_sub E hw.2) (fun u t H1 locs1 ht hvm hp hB hz hk hS => ?_)
  subst hp
  exact kk H1 locs1 ⟨by rw [← ht]; exact hB, hS⟩
/-- static ones: no cells of their own -/
theorem kS_i {r : Int32} (E : EC p s m args c cc nL gtbl own K N ad cf A) (hw : PW K N ad cf A s.heap σ H locs) (hM : MCi l y (wsY y cb maxL (some .int)) rm K 0 ad_0 cf_0 As st_0 r st_0) (h1 : MI y cb maxL (some .int) C n) (h2 : Cond.static y ∈ gtbl) (h3 : Cond.methodLink own index y ∈ gtbl) (hn : As.length = n) (hR : (rm.frames + 1 ≤ R.frames ∧ 8 + (maxL + 11) + rm.locals ≤ R.locals) ∧ rm.cells = 0 ∧ rm.slots = 0) (hf : cells ≤ R.cells ∧ slots ≤ R.slots) (hls : ls.size = nL) (hst : st = As.reverse ++ rest) (hro : (rest.map fun v => v.category).sum ≤ 8) (hdg : decode cc pc = .ok (.invokestatic index, 3))
    (kk : ∀ (H1 : Heap) (locs1 : List Loc), PW K N ad cf A s.heap σ H1 locs1 → W p l e R s m args below meth c H1 locs1 cells slots Q (F0 m (pc + 3) ls (.int r :: rest))) : W p l e R s m args below meth c H locs cells slots Q (F0 m pc ls st) := by
  refine va_calli (va_runS (As := As) (rest := rest) ⟨E.1, E.2.1, E.2.2.1, E.2.2.2.1, E.2.2.2.2.1⟩ (hM H.size) (va_cwS n E.2.2.2.2.1 (gd_S h1 h2 h3) rfl hR.2.1 hR.2.2 h1.2.2.2 hR.1) ⟨PcW_blind, PcW_at0 E hw⟩ rfl hn hls hst (lv_room hro) hdg ⟨hf.1, hf.2⟩) hw.2 (fun q _ h => AA_sub0 E hw.2 q h) (AA_sub0 E hw.2) (fun r1 u t H1 locs1 ht hvm hp hB hz hk hS => ?_)
  obtain ⟨rfl, rfl⟩ := hp
  exact kk H1 locs1 (PW_kept E hw hk hS)
theorem kS_z {r : Int32} (E : EC p s m args c cc nL gtbl own K N ad cf A) (hw : PW K N ad cf A s.heap σ H locs) (hM : MCz l y (wsY y cb maxL (some .boolean)) rm K 0 ad_0 cf_0 As st_0 r st_0) (h1 : MI y cb maxL (some .boolean) C n) (h2 : Cond.static y ∈ gtbl) (h3 : Cond.methodLink own index y ∈ gtbl) (hn : As.length = n) (hR : (rm.frames + 1 ≤ R.frames ∧ 8 + (maxL + 11) + rm.locals ≤ R.locals) ∧ rm.cells = 0 ∧ rm.slots = 0) (hf : cells ≤ R.cells ∧ slots ≤ R.slots) (hls : ls.size = nL) (hst : st = As.reverse ++ rest) (hro : (rest.map fun v => v.category).sum ≤ 8) (hdg : decode cc pc = .ok (.invokestatic index, 3))
    (kk : (r = 0 ∨ r = 1) → ∀ (H1 : Heap) (locs1 : List Loc), PW K N ad cf A s.heap σ H1 locs1 → W p l e R s m args below meth c H1 locs1 cells slots Q (F0 m (pc + 3) ls (.int r :: rest))) : W p l e R s m args below meth c H locs cells slots Q (F0 m pc ls st) := by
  refine va_calli (va_runS (As := As) (rest := rest) ⟨E.1, E.2.1, E.2.2.1, E.2.2.2.1, E.2.2.2.2.1⟩ (hM H.size) (va_cwS n E.2.2.2.2.1 (gd_S h1 h2 h3) rfl hR.2.1 hR.2.2 h1.2.2.2 hR.1) ⟨PcW_blind, PcW_at0 E hw⟩ rfl hn hls hst (lv_room hro) hdg ⟨hf.1, hf.2⟩) hw.2 (fun q _ h => AA_sub0 E hw.2 q h) (AA_sub0 E hw.2) (fun r1 u t H1 locs1 ht hvm hp hB hz hk hS => ?_)
  obtain ⟨⟨rfl, rfl⟩, hp2⟩ := hp
  exact kk hp2 H1 locs1 (PW_kept E hw hk hS)
theorem kN_i {r : Int32} {host : String} (E : EC p s m args c cc nL gtbl own K N ad cf A) (hw : PW K N ad cf A s.heap σ H locs) (hM : MCi l y (wsY y cb maxL (some .int)) rm K 0 ad_0 cf_0 As st_0 r st_0) (h1 : MI y cb maxL (some .int) C n) (h2 : Cond.static y ∈ gtbl) (h3 : va_Nw (.methodLinkNest own index y host) s) (hn : As.length = n) (hR : (rm.frames + 1 ≤ R.frames ∧ 8 + (maxL + 11) + rm.locals ≤ R.locals) ∧ rm.cells = 0 ∧ rm.slots = 0) (hf : cells ≤ R.cells ∧ slots ≤ R.slots) (hls : ls.size = nL) (hst : st = As.reverse ++ rest) (hro : (rest.map fun v => v.category).sum ≤ 8) (hdg : decode cc pc = .ok (.invokestatic index, 3))
    (kk : ∀ (H1 : Heap) (locs1 : List Loc), PW K N ad cf A s.heap σ H1 locs1 → W p l e R s m args below meth c H1 locs1 cells slots Q (F0 m (pc + 3) ls (.int r :: rest))) : W p l e R s m args below meth c H locs cells slots Q (F0 m pc ls st) := by
  have hts := E.2.2.2.2.1
  refine va_calli (va_runSN (As := As) (rest := rest) ⟨E.1, E.2.1, E.2.2.1, E.2.2.2.1, E.2.2.2.2.1⟩ (hM H.size) ⟨va_cnB n hts (gd_Y h1.2.1) rfl hR.2.1 hR.2.2 h3 (hts _ (by rw [h1.2.2.1]; exact h1.1)) h1.2.2.2 hR.1, hts _ h2, trivial⟩ ⟨PcW_blind, PcW_at0 E hw⟩ rfl hn hls hst (lv_room hro) hdg ⟨hf.1, hf.2⟩) hw.2 (fun q _ h => AA_sub0 E hw.2 q h) (AA_sub0 E hw.2) (fun r1 u t H1 locs1 ht hvm hp hB hz hk hS => ?_)
  obtain ⟨rfl, rfl⟩ := hp
  exact kk H1 locs1 (PW_kept E hw hk hS)
/-- ends -/
theorem q_iret {r v : Int32} (E : EC p s m args c cc nL gtbl own K N ad cf A) (hA : A = AA N ad s.heap.size) (hr : meth.sig.returnType = some .int) (hlocks : meth.locks = false) (hw : PW K N ad cf A s.heap σ H locs) (h1 : v = r) (h2 : σ = σ') (hdg : decode cc pc = .ok (.ireturn, 1)) : W p l e R s m args below meth c H locs cells slots (MQ below (QCi K N ad cf r σ' s.heap.size) args s cells slots A) (F0 m pc ls [.int v]) := by
  subst h1; subst h2; subst hA
  exact W.iret E.1 E.2.1 hr (fun t ht hW => ⟨⟨v, σ, rfl, ⟨rfl, rfl⟩, by unfold BW; rw [ht]; exact hw.1⟩, hw.2.F ht⟩) hw.2.2.2 hdg hlocks
theorem q_zret {r v : Int32} (E : EC p s m args c cc nL gtbl own K N ad cf A) (hA : A = AA N ad s.heap.size) (hr : meth.sig.returnType = some .boolean) (hlocks : meth.locks = false) (hw : PW K N ad cf A s.heap σ H locs) (h1 : v = r) (h2 : σ = σ') (hz : v = 0 ∨ v = 1) (hdg : decode cc pc = .ok (.ireturn, 1)) : W p l e R s m args below meth c H locs cells slots (MQ below (QCz K N ad cf r σ' s.heap.size) args s cells slots A) (F0 m pc ls [.int v]) := by
  subst h1; subst h2; subst hA
  refine W.zret E.1 E.2.1 hr ?_ (fun t ht hW => ⟨⟨v, σ, rfl, ⟨⟨rfl, rfl⟩, hz⟩, by unfold BW; rw [ht]; exact hw.1⟩, hw.2.F ht⟩) hw.2.2.2 hdg hlocks
  rcases hz with rfl | rfl <;> rfl
theorem q_lret {r v : Int64} (E : EC p s m args c cc nL gtbl own K N ad cf A) (hA : A = AA N ad s.heap.size) (hr : meth.sig.returnType = some .long) (hlocks : meth.locks = false) (hw : PW K N ad cf A s.heap σ H locs) (h1 : v = r) (h2 : σ = σ') (hdg : decode cc pc = .ok (.lreturn, 1)) : W p l e R s m args below meth c H locs cells slots (MQ below (QCl K N ad cf r σ' s.heap.size) args s cells slots A) (F0 m pc ls [.long v]) := by
  subst h1; subst h2; subst hA
  exact W.lret E.1 E.2.1 hr (fun t ht hW => ⟨⟨v, σ, rfl, ⟨rfl, rfl⟩, by unfold BW; rw [ht]; exact hw.1⟩, hw.2.F ht⟩) hw.2.2.2 hdg hlocks
theorem q_vret (E : EC p s m args c cc nL gtbl own K N ad cf A) (hA : A = AA N ad s.heap.size) (hr : meth.sig.returnType = none) (hlocks : meth.locks = false) (hw : PW K N ad cf A s.heap σ H locs) (h2 : σ = σ') (hdg : decode cc pc = .ok (.return_, 1)) : W p l e R s m args below meth c H locs cells slots (MQ below (QCv K N ad cf σ' s.heap.size) args s cells slots A) (F0 m pc ls []) := by
  subst h2; subst hA
  exact W.vret E.1 E.2.1 hr (fun t ht hW => ⟨⟨σ, rfl, rfl, by unfold BW; rw [ht]; exact hw.1⟩, hw.2.F ht⟩) hw.2.2.2 hdg hlocks
end KV
