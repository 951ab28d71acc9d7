/-! constructors: worlds as lists that grow -/
def PcL (K : vK) (av : List Value) (ws : va_W) (sz : Nat) : Array Value → State → Prop := va_Pc av (fun U => U.heap.size = sz ∧ va_P K.1 vwCl ws U.heap ∧ va_K K.1 vwCl (tysK K) U ∧ Amb (va_A ws sz) U U.heap)
def QL (K : vK) (Fin : va_W → Prop) (ws : va_W) (sz : Nat) : Array Value → State → Outcome → State → Prop := va_Qv (fun _ : Unit => True) (fun _ t => ∃ ws', Fin ws' ∧ va_P K.1 vwCl ws' t.heap ∧ va_D (va_A ws sz) ws') (va_A ws sz)
theorem PcL_blind {K : vK} {av : List Value} {ws : va_W} {sz : Nat} : FrameBlind (PcL K av ws sz) := by
  intro a U g mk q
  obtain ⟨q0, q1, qP, qK, qA⟩ := q
  exact ⟨q0, q1, qP, va_K.moved (u := U) (U := U.calling g mk a) (Vm.Alike.refl U.vm) qK, Amb.same (u := U) (U := U.calling g mk a) rfl qA⟩
/-- the context of a constructor's walk -/
def EK (p : Program) (s : State) (m : MethodId) (args : Array Value) (c : Code) (cc : ByteArray) (nL : Nat) (own : String) (K : vK) (A : Nat → Prop) : Prop :=
  p.tables.exec = Jvm.exec ∧ c.code = cc ∧ c.maxLocals = nL ∧ s.vm.findClass own = some m.cls ∧ (∀ w ∈ gtbl, w.before args s = true) ∧ va_K K.1 vwCl (tysK K) s ∧ (∀ q, s.heap.size ≤ q → A q) ∧ Amb A s s.heap
theorem MI_of {l : Launch} {y : MethodName} {cc : ByteArray} {nL : Nat} {own : String} {rm : Room} {K : vK} {ws : va_W} {av : List Value} {Fin : va_W → Prop} {mc ms : Nat} (hy : plainFor y = true) (ho : y.cls = own) (hn : y.name = "<init>") (hav : (lg_sl av).length ≤ nL) (hD0 : va_D (fun _ => True) ws)
    (body : ∀ (p : Program) (e : Env) (s : State) (m : MethodId) (args : Array Value) (below : List Frame) (meth : Method) (c : Code) (A : Nat → Prop) (Q : State → Prop), EK p s m args c cc nL own K A → A = va_A ws s.heap.size → meth.name = "<init>" → (∀ {H : Heap} {locs : List Loc} {pc : Nat} {ls : Array Slot} {ws' : va_W}, Fin ws' → va_P K.1 vwCl ws' H → va_D A ws' → va_S A s.heap H locs → decode cc pc = .ok (.return_, 1) → W p l e rm s m args below meth c H locs mc ms Q (F0 m pc ls [])) → ∀ ls : Array Slot, va_P K.1 vwCl ws s.heap → va_D A ws → va_S A s.heap s.heap [] → lv_has ls nL (lv_args 0 av) → W p l e rm s m args below meth c s.heap [] 0 0 Q (F0 m 0 ls [])) (sz : Nat) :
    Met l y (wsY y cc nL none) rm (PcL K av ws sz) (QL K Fin ws sz) mc ms (va_A ws sz) := by
  refine va_MetF (cc := cc) (maxL := nL) (ret := none) hy rfl ?_
  intro p e s m args below meth c s₁ B hml hv
  obtain ⟨rfl, hsz, hP, hK, hAm⟩ := hv
  have hts := atoms_spec (ws := wsY y cc nL none) B.pre
  have hown : s.vm.findClass own = some m.cls := by rw [← ho]; exact findClass_of_methodNamed B.named
  subst hsz
  have hl := lv_entry av (n := nL) hav
  rw [lg_entry_eq]
  have hin : meth.name = "<init>" := ((name_of_methodNamed B.named B.method).1).trans hn
  have hx := B.exec
  have hb := B.bytes
  have hr := B.returns
  have hlocks := B.notSynchronized
  refine body p e s m _ below meth c (va_A ws s.heap.size) _ ⟨B.exec, B.bytes, hml, hown, fun w hw => hts w (List.mem_cons_of_mem _ hw), hK, fun q h => Or.inr h, hAm⟩ rfl hin (fun hF hP hD hS hdg => ?_) _ hP hD0.self va_S.rf hl
  exact W.vret hx hb hr (fun t ht hW => ⟨⟨(), rfl, trivial, _, hF, by rw [ht]; exact hP, hD⟩, hS.F ht⟩) hS.2.2 hdg hlocks
section KI
variable {p : Program} {l : Launch} {e : Env} {R : Room} {s : State} {m : MethodId} {args : Array Value} {below : List Frame} {meth : Method} {c : Code} {H : Heap} {locs : List Loc} {cells slots : Nat} {Q : State → Prop}
variable {cc : ByteArray} {nL : Nat} {own : String} {K : vK} {A : Nat → Prop} {pc : Nat} {ls : Array Slot} {rest : List Value} {ws : va_W}
theorem EK_amb (E : EK p s m args c cc nL own K A) (hS : va_S A s.heap H locs) {B : Nat → Prop} (hB : ∀ q, B q → A q) {U : State} (hU : U.heap = H) (hW : s.WarmedH U.vm) : Amb B U U.heap := by
  rw [hU]
  exact Amb.narrow (Amb.kept (Amb.warm hW E.2.2.2.2.2.2.2) hS.2.1) hB
theorem n_obj {index ci N : Nat} {C : String} {T : u_T} {ty : Nat → FieldType} {fs : List Value} (E : EK p s m args c cc nL own K A) (hP : va_P K.1 vwCl ws H) (hD : va_D A ws) (hS : va_S A s.heap H locs) (hin : ∀ w ∈ u_ws C T N, w ∈ gtbl) (hty : ∀ k, k < N → parseFieldDescriptor (T k).2.2.1 = some (ty k)) (hcl : Cond.classLink own index C ∈ gtbl) (hinst : Cond.instantiable C N ∈ gtbl) (hini : Cond.initialized C ∈ gtbl) (hc : vwCl[ci]? = some (C, T, N)) (hfs : ∀ j, j < N → defaultValue (ty j) = vp_V fs j) (hcells : cells + 1 ≤ R.cells) (hslots : slots + N ≤ R.slots) (hdg : decode cc pc = .ok (.new index, 3))
    (kk : ∀ (q : Nat) (H1 : Heap), va_P K.1 vwCl (ws ++ [(q, .inr (ci, fs))]) H1 → va_D A (ws ++ [(q, .inr (ci, fs))]) → va_S A s.heap H1 locs → W p l e R s m args below meth c H1 locs (cells + 1) (slots + N) Q (F0 m (pc + 3) ls (.ref q :: rest))) : W p l e R s m args below meth c H locs cells slots Q (F0 m pc ls rest) := by
  obtain ⟨hx, hb, hml, hown, hts, hK, hA, -⟩ := E
  exact va_new (ci := ci) (fs := fs) (C := C) (T := T) (N := N) hx hb hts hin ty hty hown (hts _ hcl) (hts _ hinst) (hts _ hini) hK hP hD hS hA hc hfs hcells hslots hdg kk
theorem n_arr {at' : ArrayType} {ty : FieldType} {j : Nat} (hat : newarray.typeOf at' = ty) (hac : Cond.arrayClass ty ∈ gtbl) (hj : (tysK K)[j]? = some (K.2 j, ty)) (hra : ∀ (U : State) (cA : ClassId), va_RA U cA ty → U.vm.findClass ("[" ++ ty.toString) = some cA) {a1 : (Nat → Int32) ⊕ (Nat → Int64) ⊕ (Nat → UInt32) ⊕ (Nat → UInt64) ⊕ (Nat → Option Nat)} {n : Int32} {N' : Nat} (hcell : ∀ cA : ClassId, vp_cell cA (N', a1) = arrV cA N' (fun _ => defaultValue ty)) (E : EK p s m args c cc nL own K A) (hP : va_P K.1 vwCl ws H) (hD : va_D A ws) (hS : va_S A s.heap H locs) (hn : ¬ n < 0) (hN : n.toNatClampNeg = N') (hbytes : N' * componentBytes ty ≤ 536870912) (hcells : cells + 1 ≤ R.cells) (hslots : slots + N' ≤ R.slots) (hdg : decode cc pc = .ok (.newarray at', 2))
    (kk : ∀ (q : Nat) (H1 : Heap), va_P K.1 vwCl (ws ++ [(q, .inl (K.2 j, N', a1))]) H1 → va_D A (ws ++ [(q, .inl (K.2 j, N', a1))]) → va_S A s.heap H1 locs → W p l e R s m args below meth c H1 locs (cells + 1) (slots + N') Q (F0 m (pc + 2) ls (.ref q :: rest))) : W p l e R s m args below meth c H locs cells slots Q (F0 m pc ls (.int n :: rest)) := by
  obtain ⟨hx, hb, hml, hown, hts, hK, hA, -⟩ := E
  refine va_newa (atype := at') (ty := ty) (a0 := (N', a1)) hx hb (by rw [hat]; exact hts _ hac) hat hK hP hD hS hA hcell hn hN hbytes hcells hslots hdg (fun q cA H1 hK1 hP1 hD1 hS1 => ?_)
  have h1 := hra _ _ (hK1.2 3 (cA, ty) rfl).2
  have h2 := hra _ _ (hK.2 j _ hj).2
  have e1 : cA = K.2 j := Option.some.inj (h1.symm.trans h2)
  subst e1
  exact kk q H1 hP1 hD1 hS1
theorem ra_i (U : State) (cA : ClassId) (h : va_RA U cA .int) : U.vm.findClass ("[" ++ FieldType.int.toString) = some cA := h
theorem ra_l (U : State) (cA : ClassId) (h : va_RA U cA .long) : U.vm.findClass ("[" ++ FieldType.long.toString) = some cA := h
theorem ra_b (U : State) (cA : ClassId) (h : va_RA U cA .byte) : U.vm.findClass ("[" ++ FieldType.byte.toString) = some cA := h
theorem ra_z (U : State) (cA : ClassId) (h : va_RA U cA .boolean) : U.vm.findClass ("[" ++ FieldType.boolean.toString) = some cA := h
/-- the call of a constructor -/
theorem kI_v {y : MethodName} {cb : ByteArray} {maxL index n mc ms : Nat} {rm : Room} {As st : List Value} {C : String} {b : Nat} {ee : va_E} {Fin : va_W → Prop} {wr : va_W} (E : EK p s m args c cc nL own K A) (hP : va_P K.1 vwCl ws H) (hD : va_D A ws) (hS : va_S A s.heap H locs) (hM : ∀ sz, Met l y (wsY y cb maxL none) rm (PcL K (.ref b :: As) [(b, ee)] sz) (QL K Fin [(b, ee)] sz) mc ms (va_A [(b, ee)] sz)) (isC isR : List Nat) (hC : isC.map (fun i => ws[i]?) = [(b, ee)].map some) (hR0 : isR.map (fun i => ws[i]?) = wr.map some) (hnd : va_nd isR = true) (hdis : ∀ i ∈ isR, i ∉ isC)
    (h1 : MI y cb maxL none C n) (h2 : Cond.instanceMethod y ∈ gtbl) (h3 : (Cond.methodLink own index y).before args s = true) (hy1 : y.name = "<init>") (hn : As.length = n) (hR : (rm.frames + 1 ≤ R.frames ∧ 8 + (maxL + 11) + rm.locals ≤ R.locals) ∧ rm.cells = mc ∧ rm.slots = ms) (hf : cells + mc ≤ R.cells ∧ slots + ms ≤ R.slots) (hls : ls.size = nL) (hst : st = As.reverse ++ .ref b :: rest) (hro : (rest.map fun v => v.category).sum ≤ 8) (hdg : decode cc pc = .ok (.invokespecial index, 3))
    (kk : ∀ (H1 : Heap) (locs1 : List Loc) (ws' : va_W), Fin ws' → va_P K.1 vwCl (wr ++ ws') H1 → va_D A (wr ++ ws') → va_S A s.heap H1 locs1 → W p l e R s m args below meth c H1 locs1 (cells + mc) (slots + ms) Q (F0 m (pc + 3) ls rest)) : W p l e R s m args below meth c H locs cells slots Q (F0 m pc ls st) := by
  have hts := E.2.2.2.2.1
  have hA := E.2.2.2.2.2.2.1
  have hFc : ∀ q, va_A [(b, ee)] H.size q → A q := va_free hD hS hA isC hC
  have hPc : va_P K.1 vwCl [(b, ee)] H := by
    intro k q hq
    have h0 : (isC.map (fun i => ws[i]?))[k]? = some (some q) := by rw [hC, List.getElem?_map, hq]; rfl
    rw [List.getElem?_map] at h0
    cases hi : isC[k]? with
    | none => rw [hi] at h0; cases h0
    | some i => rw [hi] at h0; exact hP i q (Option.some.inj h0)
  refine va_callv (va_runI (As := As) (rest := rest) ⟨E.1, E.2.1, E.2.2.1, E.2.2.2.1, hts⟩ (hM H.size) (cwI n hts (gd_Y h1.2.1) rfl hR.2.1 hR.2.2 (hts _ (by rw [h1.2.2.1]; exact h1.1)) h3 (hts _ h2) hy1 h1.2.2.2 hR.1) ⟨PcL_blind, fun U hU hW => ⟨rfl, by rw [hU], by rw [hU]; exact hPc, va_K.moved hW.alike E.2.2.2.2.2.1, EK_amb E hS hFc hU hW⟩⟩ rfl hn hls hst (lv_room hro) hdg hf) hS (fun q _ h => hFc q h) hFc (fun u t H1 locs1 ht hvm hp hB hz hk hS1 => ?_)
  obtain ⟨ws', hF, hP1, hD1⟩ := hB
  rw [ht] at hP1
  obtain ⟨hP2, hD2⟩ := va_join (wr := wr) (w1 := ws') hP hD isC isR hC hR0 hnd hdis hk hFc hP1 hD1
  exact kk H1 locs1 ws' hF hP2 hD2 hS1
theorem kIN_v {y : MethodName} {host : String} {cb : ByteArray} {maxL index n mc ms : Nat} {rm : Room} {As st : List Value} {C : String} {b : Nat} {ee : va_E} {Fin : va_W → Prop} {wr : va_W} (E : EK p s m args c cc nL own K A) (hP : va_P K.1 vwCl ws H) (hD : va_D A ws) (hS : va_S A s.heap H locs) (hM : ∀ sz, Met l y (wsY y cb maxL none) rm (PcL K (.ref b :: As) [(b, ee)] sz) (QL K Fin [(b, ee)] sz) mc ms (va_A [(b, ee)] sz)) (isC isR : List Nat) (hC : isC.map (fun i => ws[i]?) = [(b, ee)].map some) (hR0 : isR.map (fun i => ws[i]?) = wr.map some) (hnd : va_nd isR = true) (hdis : ∀ i ∈ isR, i ∉ isC)
    (h1 : MI y cb maxL none C n) (h2 : Cond.instanceMethod y ∈ gtbl) (h3 : va_Nw (.methodLinkNest own index y host) s) (hy1 : y.name = "<init>") (hn : As.length = n) (hR : (rm.frames + 1 ≤ R.frames ∧ 8 + (maxL + 11) + rm.locals ≤ R.locals) ∧ rm.cells = mc ∧ rm.slots = ms) (hf : cells + mc ≤ R.cells ∧ slots + ms ≤ R.slots) (hls : ls.size = nL) (hst : st = As.reverse ++ .ref b :: rest) (hro : (rest.map fun v => v.category).sum ≤ 8) (hdg : decode cc pc = .ok (.invokespecial index, 3))
    (kk : ∀ (H1 : Heap) (locs1 : List Loc) (ws' : va_W), Fin ws' → va_P K.1 vwCl (wr ++ ws') H1 → va_D A (wr ++ ws') → va_S A s.heap H1 locs1 → W p l e R s m args below meth c H1 locs1 (cells + mc) (slots + ms) Q (F0 m (pc + 3) ls rest)) : W p l e R s m args below meth c H locs cells slots Q (F0 m pc ls st) := by
  have hts := E.2.2.2.2.1
  have hA := E.2.2.2.2.2.2.1
  have hFc : ∀ q, va_A [(b, ee)] H.size q → A q := va_free hD hS hA isC hC
  have hPc : va_P K.1 vwCl [(b, ee)] H := by
    intro k q hq
    have h0 : (isC.map (fun i => ws[i]?))[k]? = some (some q) := by rw [hC, List.getElem?_map, hq]; rfl
    rw [List.getElem?_map] at h0
    cases hi : isC[k]? with
    | none => rw [hi] at h0; cases h0
    | some i => rw [hi] at h0; exact hP i q (Option.some.inj h0)
  refine va_callv (va_runIN (As := As) (rest := rest) ⟨E.1, E.2.1, E.2.2.1, E.2.2.2.1, hts⟩ (hM H.size) ⟨va_cnB n hts (gd_Y h1.2.1) rfl hR.2.1 hR.2.2 h3 (hts _ (by rw [h1.2.2.1]; exact h1.1)) h1.2.2.2 hR.1, hy1, hts _ h2⟩ ⟨PcL_blind, fun U hU hW => ⟨rfl, by rw [hU], by rw [hU]; exact hPc, va_K.moved hW.alike E.2.2.2.2.2.1, EK_amb E hS hFc hU hW⟩⟩ rfl hn hls hst (lv_room hro) hdg hf) hS (fun q _ h => hFc q h) hFc (fun u t H1 locs1 ht hvm hp hB hz hk hS1 => ?_)
  obtain ⟨ws', hF, hP1, hD1⟩ := hB
  rw [ht] at hP1
  obtain ⟨hP2, hD2⟩ := va_join (wr := wr) (w1 := ws') hP hD isC isR hC hR0 hnd hdis hk hFc hP1 hD1
  exact kk H1 locs1 ws' hF hP2 hD2 hS1
theorem adInj_of {A : Nat → Prop} {N : Nat} {ad : Nat → Nat} {cf : vCf} {σ : vSt} (h : va_D A (wG N ad cf σ)) : adInj N ad := fun i j h5 h6 hab => h.1 i j _ _ (wG_at h5) (wG_at h6) hab
/-- a call over a world of N cells that lies in a list -/
theorem kG_v {y : MethodName} {cb : ByteArray} {maxL index n q ci k N : Nat} {ad : Nat → Nat} {cf : vCf} {rm : Room} {As st : List Value} {σ σ' : vSt} {C : String} {fs : List Value} {T : u_T} {wr : va_W} (E : EK p s m args c cc nL own K A) (hP : va_P K.1 vwCl ws H) (hD : va_D A ws) (hS : va_S A s.heap H locs) (hM : MCv l y (wsY y cb maxL none) rm K N ad cf (.ref (ad q) :: As) σ σ') (isC isR : List Nat) (hnC : va_nd isC = true) (hC : isC.map (fun i => ws[i]?) = (wG N ad cf σ).map some) (hR0 : isR.map (fun i => ws[i]?) = wr.map some) (hnd : va_nd isR = true) (hdis : ∀ i ∈ isR, i ∉ isC)
    (h1 : MI y cb maxL none C n) (h2 : MV y C) (h3 : Cond.methodLink own index y ∈ gtbl) (hq : q < N) (he : cf q (σ.1 q) (σ.2 q) = .inr (ci, fs)) (hc : vwCl[ci]? = some (C, T, k)) (hn : As.length = n) (hR : (rm.frames + 1 ≤ R.frames ∧ 8 + (maxL + 11) + rm.locals ≤ R.locals) ∧ rm.cells = 0 ∧ rm.slots = 0) (hf : cells ≤ R.cells ∧ slots ≤ R.slots) (hls : ls.size = nL) (hst : st = As.reverse ++ .ref (ad q) :: rest) (hro : (rest.map fun v => v.category).sum ≤ 8) (hdg : decode cc pc = .ok (.invokevirtual index, 3))
    (kk : ∀ (H1 : Heap) (locs1 : List Loc), va_P K.1 vwCl (wr ++ wG N ad cf σ') H1 → va_D A (wr ++ wG N ad cf σ') → va_S A s.heap H1 locs1 → W p l e R s m args below meth c H1 locs1 cells slots Q (F0 m (pc + 3) ls (rest))) : W p l e R s m args below meth c H locs cells slots Q (F0 m pc ls st) := by
  have hts := E.2.2.2.2.1
  have hA := E.2.2.2.2.2.2.1
  have hK := E.2.2.2.2.2.1
  have hDc : va_D A (wG N ad cf σ) := hD.sub isC hnC hC
  have hPc : va_P K.1 vwCl (wG N ad cf σ) H := by
    intro k x hx
    have h0 : (isC.map (fun i => ws[i]?))[k]? = some (some x) := by rw [hC, List.getElem?_map, hx]; rfl
    rw [List.getElem?_map] at h0
    cases hi : isC[k]? with
    | none => rw [hi] at h0; cases h0
    | some i => rw [hi] at h0; exact hP i x (Option.some.inj h0)
  have hFc : ∀ q, va_A (wG N ad cf σ) H.size q → A q := va_free hD hS hA isC hC
  have hAA : ∀ q, AA N ad H.size q → va_A (wG N ad cf σ) H.size q := by
    rintro q (⟨k, hk, rfl⟩ | h)
    · exact Or.inl ⟨k, _, wG_at hk⟩
    · exact Or.inr h
  have hAA2 : ∀ q, va_A (wG N ad cf σ) H.size q → AA N ad H.size q := by
    rintro q (⟨k, ee, hk⟩ | h)
    · obtain ⟨h5, h6⟩ := wG_some hk
      exact Or.inl ⟨k, h5, by injection h6⟩
    · exact Or.inr h
  refine va_callv (va_runV (As := As) (rest := rest) ⟨E.1, E.2.1, E.2.2.1, E.2.2.2.1, hts⟩ (hM H.size) (cwV n hts (gd_V h1 h2 h3) rfl hR.2.1 hR.2.2 h1.2.2 hR.1) ⟨PcW_blind, va_recv hK hPc (ci := ci) (q0 := q) hc (by rw [wG_at hq, he]), fun U hU hW => ⟨rfl, by rw [hU], by rw [hU]; exact hPc, va_K.moved hW.alike hK, EK_amb E hS (fun q h => hFc q (hAA q h)) hU hW⟩⟩ rfl hn hls hst (lv_room hro) hdg ⟨hf.1, hf.2⟩) hS (fun q _ h => hFc q (hAA q h)) (fun q h => hFc q (hAA q h)) (fun u t H1 locs1 ht hvm hp hB hz hk hS1 => ?_)
  subst hp
  have hP1 : va_P K.1 vwCl (wG N ad cf u) H1 := by rw [← ht]; exact hB
  have hD1 : va_D (va_A (wG N ad cf σ) H.size) (wG N ad cf u) := by
    refine ⟨fun i j a b ha hb hab => ?_, fun k x hx => ?_⟩
    · obtain ⟨h5, rfl⟩ := wG_some ha
      obtain ⟨h6, rfl⟩ := wG_some hb
      exact hDc.1 i j _ _ (wG_at h5) (wG_at h6) hab
    · obtain ⟨h5, rfl⟩ := wG_some hx
      exact Or.inl ⟨k, _, wG_at h5⟩
  obtain ⟨hP2, hD2⟩ := va_join (wr := wr) (w1 := wG N ad cf u) hP hD isC isR hC hR0 hnd hdis (fun q h5 h6 => hk q h5 (fun h7 => h6 (hAA q h7))) hFc hP1 hD1
  exact kk H1 locs1 hP2 hD2 hS1
/-- a call over a world of N cells that lies in a list -/
theorem kG_l {y : MethodName} {cb : ByteArray} {maxL index n q ci k N : Nat} {ad : Nat → Nat} {cf : vCf} {rm : Room} {As st : List Value} {σ σ' : vSt} {r : Int64} {C : String} {fs : List Value} {T : u_T} {wr : va_W} (E : EK p s m args c cc nL own K A) (hP : va_P K.1 vwCl ws H) (hD : va_D A ws) (hS : va_S A s.heap H locs) (hM : MCl l y (wsY y cb maxL (some .long)) rm K N ad cf (.ref (ad q) :: As) σ r σ') (isC isR : List Nat) (hnC : va_nd isC = true) (hC : isC.map (fun i => ws[i]?) = (wG N ad cf σ).map some) (hR0 : isR.map (fun i => ws[i]?) = wr.map some) (hnd : va_nd isR = true) (hdis : ∀ i ∈ isR, i ∉ isC)
    (h1 : MI y cb maxL (some .long) C n) (h2 : MV y C) (h3 : Cond.methodLink own index y ∈ gtbl) (hq : q < N) (he : cf q (σ.1 q) (σ.2 q) = .inr (ci, fs)) (hc : vwCl[ci]? = some (C, T, k)) (hn : As.length = n) (hR : (rm.frames + 1 ≤ R.frames ∧ 8 + (maxL + 11) + rm.locals ≤ R.locals) ∧ rm.cells = 0 ∧ rm.slots = 0) (hf : cells ≤ R.cells ∧ slots ≤ R.slots) (hls : ls.size = nL) (hst : st = As.reverse ++ .ref (ad q) :: rest) (hro : (rest.map fun v => v.category).sum ≤ 8) (hdg : decode cc pc = .ok (.invokevirtual index, 3))
    (kk : ∀ (H1 : Heap) (locs1 : List Loc), va_P K.1 vwCl (wr ++ wG N ad cf σ') H1 → va_D A (wr ++ wG N ad cf σ') → va_S A s.heap H1 locs1 → W p l e R s m args below meth c H1 locs1 cells slots Q (F0 m (pc + 3) ls (.long r :: rest))) : W p l e R s m args below meth c H locs cells slots Q (F0 m pc ls st) := by
  have hts := E.2.2.2.2.1
  have hA := E.2.2.2.2.2.2.1
  have hK := E.2.2.2.2.2.1
  have hDc : va_D A (wG N ad cf σ) := hD.sub isC hnC hC
  have hPc : va_P K.1 vwCl (wG N ad cf σ) H := by
    intro k x hx
    have h0 : (isC.map (fun i => ws[i]?))[k]? = some (some x) := by rw [hC, List.getElem?_map, hx]; rfl
    rw [List.getElem?_map] at h0
    cases hi : isC[k]? with
    | none => rw [hi] at h0; cases h0
    | some i => rw [hi] at h0; exact hP i x (Option.some.inj h0)
  have hFc : ∀ q, va_A (wG N ad cf σ) H.size q → A q := va_free hD hS hA isC hC
  have hAA : ∀ q, AA N ad H.size q → va_A (wG N ad cf σ) H.size q := by
    rintro q (⟨k, hk, rfl⟩ | h)
    · exact Or.inl ⟨k, _, wG_at hk⟩
    · exact Or.inr h
  have hAA2 : ∀ q, va_A (wG N ad cf σ) H.size q → AA N ad H.size q := by
    rintro q (⟨k, ee, hk⟩ | h)
    · obtain ⟨h5, h6⟩ := wG_some hk
      exact Or.inl ⟨k, h5, by injection h6⟩
    · exact Or.inr h
  refine va_calll (va_runV (As := As) (rest := rest) ⟨E.1, E.2.1, E.2.2.1, E.2.2.2.1, hts⟩ (hM H.size) (cwV n hts (gd_V h1 h2 h3) rfl hR.2.1 hR.2.2 h1.2.2 hR.1) ⟨PcW_blind, va_recv hK hPc (ci := ci) (q0 := q) hc (by rw [wG_at hq, he]), fun U hU hW => ⟨rfl, by rw [hU], by rw [hU]; exact hPc, va_K.moved hW.alike hK, EK_amb E hS (fun q h => hFc q (hAA q h)) hU hW⟩⟩ rfl hn hls hst (lv_room hro) hdg ⟨hf.1, hf.2⟩) hS (fun q _ h => hFc q (hAA q h)) (fun q h => hFc q (hAA q h)) (fun r1 u t H1 locs1 ht hvm hp hB hz hk hS1 => ?_)
  obtain ⟨rfl, rfl⟩ := hp
  have hP1 : va_P K.1 vwCl (wG N ad cf u) H1 := by rw [← ht]; exact hB
  have hD1 : va_D (va_A (wG N ad cf σ) H.size) (wG N ad cf u) := by
    refine ⟨fun i j a b ha hb hab => ?_, fun k x hx => ?_⟩
    · obtain ⟨h5, rfl⟩ := wG_some ha
      obtain ⟨h6, rfl⟩ := wG_some hb
      exact hDc.1 i j _ _ (wG_at h5) (wG_at h6) hab
    · obtain ⟨h5, rfl⟩ := wG_some hx
      exact Or.inl ⟨k, _, wG_at h5⟩
  obtain ⟨hP2, hD2⟩ := va_join (wr := wr) (w1 := wG N ad cf u) hP hD isC isR hC hR0 hnd hdis (fun q h5 h6 => hk q h5 (fun h7 => h6 (hAA q h7))) hFc hP1 hD1
  exact kk H1 locs1 hP2 hD2 hS1
end KI
def adL (L : List Nat) : Nat → Nat := fun k => L.getD k 0
def z_b : Nat → Int32 := fun j => if j = 10 then -1 else if j = 11 then -1 else if j = 12 then -1 else 0
def zC : vSt := (fun q => if q = 6 then z_b else if q = 11 then z_b else if q = 13 then z_b else if q = 16 then z_b else fun _ => 0, fun _ _ => 0)
def mergeS (n : Nat) (σ z : vSt) : vSt := (fun b => if b < n then σ.1 b else z.1 b, fun b => if b < n then σ.2 b else z.2 b)
