/-! THE LAW'S OWN CALLS: in its world (the class's 30 cells, its two rows), in the class's part of it -/
theorem adInj_le {n N : Nat} {ad : Nat → Nat} (h : n ≤ N) (hI : adInj N ad) : adInj n ad := fun i j h5 h6 => hI i j (Nat.lt_of_lt_of_le h5 h) (Nat.lt_of_lt_of_le h6 h)
theorem mergeS_self (n : Nat) (σ : vSt) : mergeS n σ σ = σ := by
  unfold mergeS
  have e1 : (fun b => if b < n then σ.1 b else σ.1 b) = σ.1 := by funext b; split <;> rfl
  have e2 : (fun b => if b < n then σ.2 b else σ.2 b) = σ.2 := by funext b; split <;> rfl
  rw [e1, e2]
theorem mergeS_l1 {n k : Nat} (σ z : vSt) (h : k < n) : (mergeS n σ z).1 k = σ.1 k := if_pos h
theorem mergeS_l2 {n k : Nat} (σ z : vSt) (h : k < n) : (mergeS n σ z).2 k = σ.2 k := if_pos h
theorem mergeS_r1 {n k : Nat} (σ z : vSt) (h : ¬ k < n) : (mergeS n σ z).1 k = z.1 k := if_neg h
theorem mergeS_r2 {n k : Nat} (σ z : vSt) (h : ¬ k < n) : (mergeS n σ z).2 k = z.2 k := if_neg h
section KT
variable {p : Program} {l : Launch} {e : Env} {R : Room} {s : State} {m : MethodId} {args : Array Value} {below : List Frame} {meth : Method} {c : Code} {H : Heap} {locs : List Loc} {cells slots : Nat} {Q : State → Prop}
variable {cc : ByteArray} {nL : Nat} {own : String} {K : vK} {N : Nat} {ad : Nat → Nat} {cf : vCf} {A : Nat → Prop} {σ : vSt} {pc : Nat} {ls : Array Slot} {rest : List Value}
variable {y : MethodName} {cb : ByteArray} {maxL index n q ci k : Nat} {rm : Room} {As st : List Value} {σ' : vSt} {C : String} {fs : List Value} {T : u_T}
theorem kT_i {r : Int32} (E : EC p s m args c cc nL gtbl own K N ad cf A) (hw : PW K N ad cf A s.heap σ H locs) (hM : MCi l y (wsY y cb maxL (some .int)) rm K N ad cf As σ r σ') (h1 : MI y cb maxL (some .int) C n) (h2 : Cond.static y ∈ gtbl) (h3 : Cond.methodLink own index y ∈ gtbl) (hn : As.length = n) (hR : (rm.frames + 1 ≤ R.frames ∧ 8 + (maxL + 11) + rm.locals ≤ R.locals) ∧ rm.cells = 0 ∧ rm.slots = 0) (hf : cells ≤ R.cells ∧ slots ≤ R.slots) (hls : ls.size = nL) (hst : st = As.reverse ++ rest) (hro : (rest.map fun v => v.category).sum ≤ 8) (hdg : decode cc pc = .ok (.invokestatic index, 3))
    (kk : ∀ (H1 : Heap) (locs1 : List Loc), PW K N ad cf A s.heap σ' H1 locs1 → W p l e R s m args below meth c H1 locs1 cells slots Q (F0 m (pc + 3) ls (.int r :: rest))) : W p l e R s m args below meth c H locs cells slots Q (F0 m pc ls st) := by
  refine va_calli (va_runS (As := As) (rest := rest) ⟨E.1, E.2.1, E.2.2.1, E.2.2.2.1, E.2.2.2.2.1⟩ (hM H.size) (va_cwS n E.2.2.2.2.1 (gd_S h1 h2 h3) rfl hR.2.1 hR.2.2 h1.2.2.2 hR.1) ⟨PcW_blind, PcW_at E hw⟩ rfl hn hls hst (lv_room hro) hdg ⟨hf.1, hf.2⟩) hw.2 (fun q _ h => AA_sub E hw.2 q h) (AA_sub E hw.2) (fun r1 u t H1 locs1 ht hvm hp hB hz hk hS => ?_)
  obtain ⟨rfl, rfl⟩ := hp
  exact kk H1 locs1 ⟨by rw [← ht]; exact hB, hS⟩
theorem kT_z {r : Int32} (E : EC p s m args c cc nL gtbl own K N ad cf A) (hw : PW K N ad cf A s.heap σ H locs) (hM : MCz l y (wsY y cb maxL (some .boolean)) rm K N ad cf As σ r σ') (h1 : MI y cb maxL (some .boolean) C n) (h2 : Cond.static y ∈ gtbl) (h3 : Cond.methodLink own index y ∈ gtbl) (hn : As.length = n) (hR : (rm.frames + 1 ≤ R.frames ∧ 8 + (maxL + 11) + rm.locals ≤ R.locals) ∧ rm.cells = 0 ∧ rm.slots = 0) (hf : cells ≤ R.cells ∧ slots ≤ R.slots) (hls : ls.size = nL) (hst : st = As.reverse ++ rest) (hro : (rest.map fun v => v.category).sum ≤ 8) (hdg : decode cc pc = .ok (.invokestatic index, 3))
    (kk : (r = 0 ∨ r = 1) → ∀ (H1 : Heap) (locs1 : List Loc), PW K N ad cf A s.heap σ' H1 locs1 → W p l e R s m args below meth c H1 locs1 cells slots Q (F0 m (pc + 3) ls (.int r :: rest))) : W p l e R s m args below meth c H locs cells slots Q (F0 m pc ls st) := by
  refine va_calli (va_runS (As := As) (rest := rest) ⟨E.1, E.2.1, E.2.2.1, E.2.2.2.1, E.2.2.2.2.1⟩ (hM H.size) (va_cwS n E.2.2.2.2.1 (gd_S h1 h2 h3) rfl hR.2.1 hR.2.2 h1.2.2.2 hR.1) ⟨PcW_blind, PcW_at E hw⟩ rfl hn hls hst (lv_room hro) hdg ⟨hf.1, hf.2⟩) hw.2 (fun q _ h => AA_sub E hw.2 q h) (AA_sub E hw.2) (fun r1 u t H1 locs1 ht hvm hp hB hz hk hS => ?_)
  obtain ⟨⟨rfl, rfl⟩, hp2⟩ := hp
  exact kk hp2 H1 locs1 ⟨by rw [← ht]; exact hB, hS⟩
theorem kT_v (E : EC p s m args c cc nL gtbl own K N ad cf A) (hw : PW K N ad cf A s.heap σ H locs) (hM : MCv l y (wsY y cb maxL none) rm K N ad cf As σ σ') (h1 : MI y cb maxL none C n) (h2 : Cond.static y ∈ gtbl) (h3 : Cond.methodLink own index y ∈ gtbl) (hn : As.length = n) (hR : (rm.frames + 1 ≤ R.frames ∧ 8 + (maxL + 11) + rm.locals ≤ R.locals) ∧ rm.cells = 0 ∧ rm.slots = 0) (hf : cells ≤ R.cells ∧ slots ≤ R.slots) (hls : ls.size = nL) (hst : st = As.reverse ++ rest) (hro : (rest.map fun v => v.category).sum ≤ 8) (hdg : decode cc pc = .ok (.invokestatic index, 3))
    (kk : ∀ (H1 : Heap) (locs1 : List Loc), PW K N ad cf A s.heap σ' H1 locs1 → W p l e R s m args below meth c H1 locs1 cells slots Q (F0 m (pc + 3) ls rest)) : W p l e R s m args below meth c H locs cells slots Q (F0 m pc ls st) := by
  refine va_callv (va_runS (As := As) (rest := rest) ⟨E.1, E.2.1, E.2.2.1, E.2.2.2.1, E.2.2.2.2.1⟩ (hM H.size) (va_cwS n E.2.2.2.2.1 (gd_S h1 h2 h3) rfl hR.2.1 hR.2.2 h1.2.2.2 hR.1) ⟨PcW_blind, PcW_at E hw⟩ rfl hn hls hst (lv_room hro) hdg ⟨hf.1, hf.2⟩) hw.2 (fun q _ h => AA_sub E hw.2 q h) (AA_sub E hw.2) (fun u t H1 locs1 ht hvm hp hB hz hk hS => ?_)
  subst hp
  exact kk H1 locs1 ⟨by rw [← ht]; exact hB, hS⟩
/-- a call that makes cells of its own -/
theorem kA_z {r : Int32} {mc ms : Nat} (E : EC p s m args c cc nL gtbl own K N ad cf A) (hw : PW K N ad cf A s.heap σ H locs) (hM : ∀ sz, Met l y (wsY y cb maxL (some .boolean)) rm (PcW K N ad cf As σ sz) (QCz K N ad cf r σ' sz) mc ms (AA N ad sz)) (h1 : MI y cb maxL (some .boolean) C n) (h2 : Cond.static y ∈ gtbl) (h3 : Cond.methodLink own index y ∈ gtbl) (hn : As.length = n) (hR : (rm.frames + 1 ≤ R.frames ∧ 8 + (maxL + 11) + rm.locals ≤ R.locals) ∧ rm.cells = mc ∧ rm.slots = ms) (hf : cells + mc ≤ R.cells ∧ slots + ms ≤ R.slots) (hls : ls.size = nL) (hst : st = As.reverse ++ rest) (hro : (rest.map fun v => v.category).sum ≤ 8) (hdg : decode cc pc = .ok (.invokestatic index, 3))
    (kk : (r = 0 ∨ r = 1) → ∀ (H1 : Heap) (locs1 : List Loc), PW K N ad cf A s.heap σ' H1 locs1 → W p l e R s m args below meth c H1 locs1 (cells + mc) (slots + ms) Q (F0 m (pc + 3) ls (.int r :: rest))) : W p l e R s m args below meth c H locs cells slots Q (F0 m pc ls st) := by
  refine va_calli (va_runS (As := As) (rest := rest) ⟨E.1, E.2.1, E.2.2.1, E.2.2.2.1, E.2.2.2.2.1⟩ (hM H.size) (va_cwS n E.2.2.2.2.1 (gd_S h1 h2 h3) rfl hR.2.1 hR.2.2 h1.2.2.2 hR.1) ⟨PcW_blind, PcW_at E hw⟩ rfl hn hls hst (lv_room hro) hdg ⟨hf.1, hf.2⟩) hw.2 (fun q _ h => AA_sub E hw.2 q h) (AA_sub E hw.2) (fun r1 u t H1 locs1 ht hvm hp hB hz hk hS => ?_)
  obtain ⟨⟨rfl, rfl⟩, hp2⟩ := hp
  exact kk hp2 H1 locs1 ⟨by rw [← ht]; exact hB, hS⟩
/-- the first M cells of a world of N -/
theorem PW_first {M : Nat} (hM : M ≤ N) (hw : va_P K.1 vwCl (wG N ad cf σ) H) : va_P K.1 vwCl (wG M ad cf σ) H := by
  intro k x hx
  obtain ⟨hk, rfl⟩ := wG_some hx
  exact hw k _ (wG_at (Nat.lt_of_lt_of_le hk hM))
theorem AA_first {M sz : Nat} (hM : M ≤ N) : ∀ q, AA M ad sz q → AA N ad sz q := by
  rintro q (⟨k, hk, rfl⟩ | h)
  · exact Or.inl ⟨k, Nat.lt_of_lt_of_le hk hM, rfl⟩
  · exact Or.inr h
theorem PW_back {M : Nat} (hM : M ≤ N) (hI : adInj N ad) (hw : PW K N ad cf A s.heap σ H locs) {H1 : Heap} {locs1 : List Loc} (hB : va_P K.1 vwCl (wG M ad cf σ') H1) (hk : ∀ q : Nat, q < H.size → ¬ AA M ad H.size q → H1[q]? = H[q]?) (hS : va_S A s.heap H1 locs1) : PW K N ad cf A s.heap (mergeS M σ' σ) H1 locs1 := by
  refine ⟨fun k x hx => ?_, hS⟩
  obtain ⟨hN, rfl⟩ := wG_some hx
  by_cases h : k < M
  · rw [mergeS_l1 _ _ h, mergeS_l2 _ _ h]
    exact hB k _ (wG_at h)
  · rw [mergeS_r1 _ _ h, mergeS_r2 _ _ h]
    have h0 := hw.1 k _ (wG_at hN)
    refine h0.kept (hk _ h0.lt ?_)
    rintro (⟨j, hj, e⟩ | e)
    · have := hI k j hN (Nat.lt_of_lt_of_le hj hM) e
      omega
    · exact absurd h0.lt (Nat.not_lt.mpr e)
theorem kU_i {r : Int32} (E : EC p s m args c cc nL gtbl own K N ad cf A) (h30 : 30 ≤ N) (hI : adInj N ad) (hw : PW K N ad cf A s.heap σ H locs) (hM : MCi l y (wsY y cb maxL (some .int)) rm K 30 ad cf (.ref (ad q) :: As) σ r σ') (h1 : MI y cb maxL (some .int) C n) (h2 : MV y C) (h3 : Cond.methodLink own index y ∈ gtbl) (hq : q < 30) (he : cf q (σ.1 q) (σ.2 q) = .inr (ci, fs)) (hc : vwCl[ci]? = some (C, T, k)) (hn : As.length = n) (hR : (rm.frames + 1 ≤ R.frames ∧ 8 + (maxL + 11) + rm.locals ≤ R.locals) ∧ rm.cells = 0 ∧ rm.slots = 0) (hf : cells ≤ R.cells ∧ slots ≤ R.slots) (hls : ls.size = nL) (hst : st = As.reverse ++ .ref (ad q) :: rest) (hro : (rest.map fun v => v.category).sum ≤ 8) (hdg : decode cc pc = .ok (.invokevirtual index, 3))
    (kk : ∀ (H1 : Heap) (locs1 : List Loc), PW K N ad cf A s.heap (mergeS 30 σ' σ) H1 locs1 → W p l e R s m args below meth c H1 locs1 cells slots Q (F0 m (pc + 3) ls (.int r :: rest))) : W p l e R s m args below meth c H locs cells slots Q (F0 m pc ls st) := by
  have hx := E.1
  have hK := E.2.2.2.2.2.1
  have hA3 : ∀ q, AA 30 ad H.size q → A q := fun q h => AA_sub E hw.2 q (AA_first h30 q h)
  refine va_calli (va_runV (As := As) (rest := rest) ⟨E.1, E.2.1, E.2.2.1, E.2.2.2.1, E.2.2.2.2.1⟩ (hM H.size) (cwV n E.2.2.2.2.1 (gd_V h1 h2 h3) rfl hR.2.1 hR.2.2 h1.2.2 hR.1) ⟨PcW_blind, va_recv hK hw.1 (ci := ci) (q0 := q) hc (by rw [wG_at (Nat.lt_of_lt_of_le hq h30), he]), fun U hU hW => ⟨rfl, by rw [hU], by rw [hU]; exact PW_first h30 hw.1, va_K.moved hW.alike hK, Amb_at E hw.2 hA3 hU hW⟩⟩ rfl hn hls hst (lv_room hro) hdg ⟨hf.1, hf.2⟩) hw.2 (fun q _ h => hA3 q h) hA3 (fun r1 u t H1 locs1 ht hvm hp hB hz hk hS => ?_)
  obtain ⟨rfl, rfl⟩ := hp
  exact kk H1 locs1 (PW_back h30 hI hw (by rw [← ht]; exact hB) hk hS)
theorem kUr_i {r : Int32} (E : EC p s m args c cc nL gtbl own K N ad cf A) (h30 : 30 ≤ N) (hI : adInj N ad) (hw : PW K N ad cf A s.heap σ H locs) (hM : MCi l y (wsY y cb maxL (some .int)) rm K 30 ad cf (.ref (ad q) :: As) σ r σ) (h1 : MI y cb maxL (some .int) C n) (h2 : MV y C) (h3 : Cond.methodLink own index y ∈ gtbl) (hq : q < 30) (he : cf q (σ.1 q) (σ.2 q) = .inr (ci, fs)) (hc : vwCl[ci]? = some (C, T, k)) (hn : As.length = n) (hR : (rm.frames + 1 ≤ R.frames ∧ 8 + (maxL + 11) + rm.locals ≤ R.locals) ∧ rm.cells = 0 ∧ rm.slots = 0) (hf : cells ≤ R.cells ∧ slots ≤ R.slots) (hls : ls.size = nL) (hst : st = As.reverse ++ .ref (ad q) :: rest) (hro : (rest.map fun v => v.category).sum ≤ 8) (hdg : decode cc pc = .ok (.invokevirtual index, 3))
    (kk : ∀ (H1 : Heap) (locs1 : List Loc), PW K N ad cf A s.heap σ H1 locs1 → W p l e R s m args below meth c H1 locs1 cells slots Q (F0 m (pc + 3) ls (.int r :: rest))) : W p l e R s m args below meth c H locs cells slots Q (F0 m pc ls st) := by
  refine kU_i E h30 hI hw hM h1 h2 h3 hq he hc hn hR hf hls hst hro hdg (fun H1 locs1 hw1 => kk H1 locs1 ?_)
  rw [mergeS_self] at hw1
  exact hw1
end KT
/-! the script's numbers -/
def v_cell (L : Nat) (xs : Nat → Int32) (k : Int32) : Int32 := if nI L ≤ k then (795577677 : Int32) * (k + 1) else xs k.toNatClampNeg
def PcX (b L : Nat) (xs : Nat → Int32) (k : Int32) (sz : Nat) : Array Value → State → Prop := va_Pc [.ref b, .int k] (fun U => U.heap.size = sz ∧ va_X b L xs U U.heap ∧ b < sz)
def QX (r : Int32) (sz : Nat) := va_Qi (fun (r1 : Int32) (_ : Unit) => r1 = r) (fun _ _ => True) (fun q : Nat => sz ≤ q)
theorem PcX_blind {b L : Nat} {xs : Nat → Int32} {k : Int32} {sz : Nat} : FrameBlind (PcX b L xs k sz) := by
  intro a U g mk q
  obtain ⟨q0, q1, qX, qb⟩ := q
  exact ⟨q0, q1, va_X.moved (u := U) (U := U.calling g mk a) (Vm.Alike.refl U.vm) qX, qb⟩
set_option maxHeartbeats 4000000 in
theorem c_L_cell (l : Launch) (b L : Nat) (xs : Nat → Int32) (k : Int32) (hL : L ≤ 260) (hk : 0 ≤ k.toInt) (sz : Nat) : Met l yL_cell (wsY yL_cell cL_cell 2 (some .int)) (rmF 1 0) (PcX b L xs k sz) (QX (v_cell L xs k) sz) 0 0 (fun q : Nat => sz ≤ q) := by
  refine va_MetF (cc := cL_cell) (maxL := 2) (ret := some .int) (plainFor_of_name (by decide)) rfl ?_
  intro p e s m args below meth c s₁ B hml hv
  obtain ⟨rfl, hsz, hX, hbs⟩ := hv
  have hts := atoms_spec (ws := wsY yL_cell cL_cell 2 (some .int)) B.pre
  have hown : s.vm.findClass RL = some m.cls := findClass_of_methodNamed B.named
  subst hsz
  have hx := B.exec
  have hb := B.bytes
  have hr := B.returns
  have hlocks := B.notSynchronized
  have hl := lv_entry ([.ref b, .int k]) (n := 2) (Nat.le_of_ble_eq_true rfl)
  rw [lg_entry_eq]
  generalize (lg_sl ([.ref b, .int k]) ++ List.replicate (2 - (lg_sl ([.ref b, .int k])).length) Slot.unset).toArray = ls at hl ⊢
  replace hl : lv_has ls 2 [(0, .ref b), (1, .int k)] := hl
  have hbA : ¬ (fun q : Nat => s.heap.size ≤ q) b := Nat.not_le.mpr hbs
  have hS : va_S (fun q : Nat => s.heap.size ≤ q) s.heap s.heap [] := va_S.rf
  refine lv_iload_n hx hb dL_cell_0 rfl (lv_at hl 1 rfl) ?_
  refine lv_aload_n hx hb dL_cell_1 rfl (lv_at hl 0 rfl) ?_
  refine va_slen hx hb hX hbs hbA hS dL_cell_2 ?_
  have fin : ∀ v : Int32, v = v_cell L xs k → W p l e (rmF 1 0) s m #[.ref b, .int k] below meth c s.heap [] 0 0 (MQ below (QX (v_cell L xs k) s.heap.size) #[.ref b, .int k] s 0 0 (fun q : Nat => s.heap.size ≤ q)) (F0 m 18 ls [.int v]) := by
    intro v hv
    exact W.iret hx hb hr (fun t ht hW => ⟨⟨v, (), rfl, hv, trivial⟩, hS.F ht⟩) hS.2.2 dL_cell_18 hlocks
  refine lv_icmp_ge (tgt := 12) hx hb dL_cell_3 (by decide) (fun c1 => ?_) (fun c1 => ?_)
  · refine lv_ldc (v := 795577677) hx hb hown (hts _ (List.mem_cons_of_mem _ kc_L_7)) dL_cell_12 ?_
    refine lv_iload_n hx hb dL_cell_14 rfl (lv_at hl 1 rfl) ?_
    refine lv_iconst (v := 1) hx hb dL_cell_15 (by decide) ?_
    refine lv_iadd hx hb dL_cell_16 ?_
    refine lv_imul hx hb dL_cell_17 ?_
    exact fin _ (if_pos c1).symm
  · refine lv_aload_n hx hb dL_cell_6 rfl (lv_at hl 0 rfl) ?_
    refine lv_iload_n hx hb dL_cell_7 rfl (lv_at hl 1 rfl) ?_
    have hlt : 0 ≤ k.toInt ∧ k.toInt < (L : Int) := by
      refine ⟨hk, ?_⟩
      have h5 : ¬ (nI L).toInt ≤ k.toInt := fun h => c1 (Int32.le_iff_toInt_le.mpr h)
      rw [nI_toInt (by omega)] at h5
      omega
    refine va_sld hx hb hX hbs hbA hS (vp_in_iff.mpr hlt) dL_cell_8 ?_
    refine lv_goto (tgt := 18) hx hb dL_cell_9 (by decide) ?_
    exact fin _ (if_neg c1).symm
theorem kCell {p : Program} {l : Launch} {e : Env} {R : Room} {s : State} {m : MethodId} {args : Array Value} {below : List Frame} {meth : Method} {c : Code} {H : Heap} {locs : List Loc} {cells slots : Nat} {Q : State → Prop} {cc : ByteArray} {nL : Nat} {K : vK} {N : Nat} {ad : Nat → Nat} {cf : vCf} {A : Nat → Prop} {σ : vSt} {pc : Nat} {ls : Array Slot} {rest : List Value} {b L : Nat} {xs : Nat → Int32} {k : Int32} (E : EC p s m args c cc nL gtbl RL K N ad cf A) (hw : PW K N ad cf A s.heap σ H locs) (hX : va_X b L xs s s.heap ∧ L ≤ 260) (hbl : b < s.heap.size) (hbA : ¬ A b) (hk : 0 ≤ k.toInt) (hf : cells ≤ R.cells ∧ slots ≤ R.slots) (hls : ls.size = nL) (h0 : (1 : Nat) = 1) (hro : (rest.map fun v => v.category).sum ≤ 8) (hdg : decode cc pc = .ok (.invokestatic 137, 3)) (hR : 2 ≤ R.frames ∧ 21 ≤ R.locals)
    (kk : ∀ (H1 : Heap) (locs1 : List Loc), PW K N ad cf A s.heap σ H1 locs1 → W p l e R s m args below meth c H1 locs1 cells slots Q (F0 m (pc + 3) ls (.int (v_cell L xs k) :: rest))) : W p l e R s m args below meth c H locs cells slots Q (F0 m pc ls (.int k :: .ref b :: rest)) := by
  have hA9 : ∀ q, H.size ≤ q → A q := fun q h => AA_sub E hw.2 q (Or.inr h)
  refine va_calli (va_runS (As := [.ref b, .int k]) (rest := rest) ⟨E.1, E.2.1, E.2.2.1, E.2.2.2.1, E.2.2.2.2.1⟩ (c_L_cell l b L xs k hX.2 hk H.size) (va_cwS 2 E.2.2.2.2.1 (gd_S mi_L_cell sm_L_cell ml_L_137) rfl rfl rfl mi_L_cell.2.2.2 ⟨hR.1, hR.2⟩) ⟨PcX_blind, fun U hU hW => ⟨rfl, by rw [hU], by rw [hU]; exact va_X.kept (va_X.moved hW.alike hX.1) (hw.2.2.1 b hbl hbA), Nat.lt_of_lt_of_le hbl hw.2.1⟩⟩ rfl rfl hls rfl (lv_room hro) hdg ⟨hf.1, hf.2⟩) hw.2 (fun q h1 h2 => absurd h1 (Nat.not_lt.mpr h2)) hA9 (fun r1 u t H1 locs1 ht hvm hp hB hz hk hS => ?_)
  subst hp
  refine kk H1 locs1 ⟨fun k q hq => ?_, hS⟩
  exact (hw.1 k q hq).kept (hk q.1 (hw.1 k q hq).lt (Nat.not_le.mpr (hw.1 k q hq).lt))
