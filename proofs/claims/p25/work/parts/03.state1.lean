/-! THE STATE: numbers by cell and place; worlds of N cells; rows over them -/
abbrev vSt : Type := (Nat → Nat → Int32) × (Nat → Nat → Int64)
def gI (σ : vSt) (q j : Nat) : Int32 := σ.1 q j
def gL (σ : vSt) (q j : Nat) : Int64 := σ.2 q j
def sI (σ : vSt) (q j : Nat) (v : Int32) : vSt := (fun b => if b = q then upd (σ.1 b) j v else σ.1 b, σ.2)
def sL (σ : vSt) (q j : Nat) (v : Int64) : vSt := (σ.1, fun b => if b = q then vp_updL (σ.2 b) j v else σ.2 b)
abbrev vCf : Type := Nat → (Nat → Int32) → (Nat → Int64) → va_E
abbrev vK : Type := va_G × (Nat → ClassId)
abbrev tysK (K : vK) : List (ClassId × FieldType) := [(K.2 0, .int), (K.2 1, .long), (K.2 2, .byte)]
def wG (N : Nat) (ad : Nat → Nat) (cf : vCf) (σ : vSt) : va_W := (List.range N).map (fun k => (ad k, cf k (σ.1 k) (σ.2 k)))
theorem wG_at {N : Nat} {ad : Nat → Nat} {cf : vCf} {σ : vSt} {q : Nat} (hq : q < N) : (wG N ad cf σ)[q]? = some (ad q, cf q (σ.1 q) (σ.2 q)) := by
  unfold wG
  rw [List.getElem?_map, List.getElem?_range hq]
  rfl
theorem wG_no {N : Nat} {ad : Nat → Nat} {cf : vCf} {σ : vSt} {q : Nat} (hq : ¬ q < N) : (wG N ad cf σ)[q]? = none := by
  unfold wG
  rw [List.getElem?_eq_none_iff]
  simp
  omega
theorem wG_len {N : Nat} {ad : Nat → Nat} {cf : vCf} {σ : vSt} : (wG N ad cf σ).length = N := by
  simp [wG]
theorem wG_some {N : Nat} {ad : Nat → Nat} {cf : vCf} {σ : vSt} {q : Nat} {x : Nat × va_E} (h : (wG N ad cf σ)[q]? = some x) : q < N ∧ x = (ad q, cf q (σ.1 q) (σ.2 q)) := by
  by_cases hq : q < N
  · rw [wG_at hq] at h
    exact ⟨hq, (Option.some.inj h).symm⟩
  · rw [wG_no hq] at h
    cases h
theorem wG_set {N : Nat} {ad : Nat → Nat} {cf : vCf} {σ σ' : vSt} {q : Nat} {x : va_E} (hq : q < N) (h0 : cf q (σ'.1 q) (σ'.2 q) = x) (h1 : ∀ k, k ≠ q → σ'.1 k = σ.1 k) (h2 : ∀ k, k ≠ q → σ'.2 k = σ.2 k) : (wG N ad cf σ).set q (ad q, x) = wG N ad cf σ' := by
  apply List.ext_getElem?
  intro k
  rw [List.getElem?_set]
  by_cases hk : q = k
  · subst hk
    rw [if_pos rfl, wG_at hq, wG_len, if_pos hq, h0]
  · rw [if_neg hk]
    by_cases hN : k < N
    · rw [wG_at hN, wG_at hN, h1 k (Ne.symm hk), h2 k (Ne.symm hk)]
    · rw [wG_no hN, wG_no hN]
theorem wG_setI {N : Nat} {ad : Nat → Nat} {cf : vCf} {σ : vSt} {q j : Nat} {v : Int32} {x : va_E} (hq : q < N) (h0 : cf q (upd (σ.1 q) j v) (σ.2 q) = x) : (wG N ad cf σ).set q (ad q, x) = wG N ad cf (sI σ q j v) := by
  refine wG_set hq ?_ (fun k hk => ?_) (fun k _ => rfl)
  · show cf q (if q = q then upd (σ.1 q) j v else σ.1 q) (σ.2 q) = x
    rw [if_pos rfl]
    exact h0
  · show (if k = q then upd (σ.1 k) j v else σ.1 k) = σ.1 k
    rw [if_neg hk]
theorem wG_setL {N : Nat} {ad : Nat → Nat} {cf : vCf} {σ : vSt} {q j : Nat} {v : Int64} {x : va_E} (hq : q < N) (h0 : cf q (σ.1 q) (vp_updL (σ.2 q) j v) = x) : (wG N ad cf σ).set q (ad q, x) = wG N ad cf (sL σ q j v) := by
  refine wG_set hq ?_ (fun k _ => rfl) (fun k hk => ?_)
  · show cf q (σ.1 q) (if q = q then vp_updL (σ.2 q) j v else σ.2 q) = x
    rw [if_pos rfl]
    exact h0
  · show (if k = q then vp_updL (σ.2 k) j v else σ.2 k) = σ.2 k
    rw [if_neg hk]
def adInj (N : Nat) (ad : Nat → Nat) : Prop := ∀ i j, i < N → j < N → ad i = ad j → i = j
def AA (N : Nat) (ad : Nat → Nat) (sz : Nat) : Nat → Prop := fun q => (∃ k, k < N ∧ q = ad k) ∨ sz ≤ q
theorem wG_D {N : Nat} {ad : Nat → Nat} {cf : vCf} {A : Nat → Prop} (hI : adInj N ad) (hA : ∀ k, k < N → A (ad k)) (σ : vSt) : va_D A (wG N ad cf σ) := by
  refine ⟨fun i j p q hp hq hpq => ?_, fun k q hq => ?_⟩
  · obtain ⟨h1, rfl⟩ := wG_some hp
    obtain ⟨h2, rfl⟩ := wG_some hq
    exact hI i j h1 h2 hpq
  · obtain ⟨h1, rfl⟩ := wG_some hq
    exact hA k h1
/-- what stands around every world: links among nest mates, the two rows of numbers -/
def t_bec (j : Nat) : Value := .int (if j = 0 then 2 else if j = 1 then 1 else if j = 2 then 2 else if j = 3 then 2 else if j = 4 then 1 else if j = 5 then 2 else if j = 6 then 2 else 1)
def t_gra (j : Nat) : Value := .int (if j = 0 then 1 else if j = 1 then 1 else if j = 2 then 1 else if j = 3 then 2 else if j = 4 then 2 else if j = 5 then 3 else if j = 6 then 4 else 4)
def Amb (A : Nat → Prop) (U : State) (H : Heap) : Prop :=
  va_Nw (.methodLinkNest RX0 113 yX6_with "RingPuzzle") U ∧ va_Nw (.methodLinkNest RX0 127 yX6_leastOf "RingPuzzle") U ∧ va_Nw (.methodLinkNest RX0 144 yX6_becomes "RingPuzzle") U ∧ True ∧
  (∃ t : Nat, va_Z "RingPuzzle" "BECOMES" "[I" (.ref t) A U H ∧ va_T .int t 8 t_bec A U H) ∧ True ∧
  va_Nw (.methodLinkNest RX6 9 yX1_init "RingPuzzle") U ∧ va_Nw (.methodLinkNest RX6 53 yX2_init "RingPuzzle") U ∧ va_Nw (.methodLinkNest RX6 60 yX5_init "RingPuzzle") U
theorem Amb.warm {A : Nat → Prop} {s U : State} {H : Heap} (hW : s.WarmedH U.vm) (h : Amb A s H) : Amb A U H := by
  obtain ⟨h1, h2, h3, -, ⟨t, h5, h6⟩, -, n1, n2, n3⟩ := h
  exact ⟨va_Nw.warmM hW h1, va_Nw.warmM hW h2, va_Nw.warmM hW h3, trivial, ⟨t, h5.moved hW.alike, h6.moved hW.alike⟩, trivial, va_Nw.warmM hW n1, va_Nw.warmM hW n2, va_Nw.warmM hW n3⟩
theorem Amb.same {A : Nat → Prop} {u U : State} {H : Heap} (hv : u.vm = U.vm) (h : Amb A u H) : Amb A U H := by
  obtain ⟨h1, h2, h3, -, ⟨t, h5, h6⟩, -, n1, n2, n3⟩ := h
  have ha : u.vm.Alike U.vm := by rw [hv]; exact Vm.Alike.refl U.vm
  exact ⟨va_Nw.same rfl hv h1, va_Nw.same rfl hv h2, va_Nw.same rfl hv h3, trivial, ⟨t, h5.moved ha, h6.moved ha⟩, trivial, va_Nw.same rfl hv n1, va_Nw.same rfl hv n2, va_Nw.same rfl hv n3⟩
theorem Amb.kept {A : Nat → Prop} {U : State} {H H1 : Heap} (h : Amb A U H) (hq : ∀ a : Nat, a < H.size → ¬ A a → H1[a]? = H[a]?) : Amb A U H1 := by
  obtain ⟨h1, h2, h3, -, ⟨t, h5, h6⟩, -, n1, n2, n3⟩ := h
  exact ⟨h1, h2, h3, trivial, ⟨t, h5.kept hq, h6.kept hq⟩, trivial, n1, n2, n3⟩
theorem Amb.narrow {A B : Nat → Prop} {U : State} {H : Heap} (h : Amb A U H) (hAB : ∀ q, B q → A q) : Amb B U H := by
  obtain ⟨h1, h2, h3, -, ⟨t, h5, h6⟩, -, n1, n2, n3⟩ := h
  exact ⟨h1, h2, h3, trivial, ⟨t, h5.narrow hAB, h6.narrow hAB⟩, trivial, n1, n2, n3⟩
def PW (K : vK) (N : Nat) (ad : Nat → Nat) (cf : vCf) (A : Nat → Prop) (H0 : Heap) (σ : vSt) (H : Heap) (locs : List Loc) : Prop := va_P K.1 vwCl (wG N ad cf σ) H ∧ va_S A H0 H locs
def EC (p : Program) (s : State) (m : MethodId) (args : Array Value) (c : Code) (cc : ByteArray) (nL : Nat) (Ts : List Cond) (own : String) (K : vK) (N : Nat) (ad : Nat → Nat) (cf : vCf) (A : Nat → Prop) : Prop :=
  p.tables.exec = Jvm.exec ∧ c.code = cc ∧ c.maxLocals = nL ∧ s.vm.findClass own = some m.cls ∧ (∀ w ∈ Ts, w.before args s = true) ∧ va_K K.1 vwCl (tysK K) s ∧ (∀ σ, va_D A (wG N ad cf σ)) ∧ (∀ q, A q ↔ AA N ad s.heap.size q) ∧ Amb A s s.heap
/-! conditions -/
theorem it_t {α : Type} {c : Prop} [Decidable c] {a b r : α} (hc : c) (h : (if c then a else b) = r) : a = r := by rw [if_pos hc] at h; exact h
theorem it_f {α : Type} {c : Prop} [Decidable c] {a b r : α} (hc : ¬ c) (h : (if c then a else b) = r) : b = r := by rw [if_neg hc] at h; exact h
theorem it_g {α : Type} {c : Prop} [Decidable c] {a : Option α} {r : α} (h : (if c then a else none) = some r) : c ∧ a = some r := by
  by_cases hc : c
  · rw [if_pos hc] at h; exact ⟨hc, h⟩
  · rw [if_neg hc] at h; cases h
theorem it_b {α β : Type} {o : Option α} {f : α → Option β} {r : β} (h : o.bind f = some r) : ∃ a, o = some a ∧ f a = some r := by
  cases o with
  | none => cases h
  | some a => exact ⟨a, rfl, h⟩
theorem it_n {α : Type} {r : α} {P : Prop} (h : (none : Option α) = some r) : P := by cases h
/-! rows over a world -/
section QR
variable {p : Program} {l : Launch} {e : Env} {R : Room} {s : State} {m : MethodId} {args : Array Value} {below : List Frame} {meth : Method} {c : Code} {H : Heap} {locs : List Loc} {cells slots : Nat} {Q : State → Prop}
variable {cc : ByteArray} {nL : Nat} {Ts : List Cond} {own : String} {K : vK} {N : Nat} {ad : Nat → Nat} {cf : vCf} {A : Nat → Prop} {σ : vSt} {pc : Nat} {ls : Array Slot} {rest : List Value}
theorem q_get (E : EC p s m args c cc nL Ts own K N ad cf A) (hw : PW K N ad cf A s.heap σ H locs) (q : Nat) (hq : q < N) {ci n : Nat} {C : String} {T : u_T} (hc : vwCl[ci]? = some (C, T, n)) (hin : ∀ w ∈ u_ws C T n, w ∈ Ts) {fs : List Value} (he : cf q (σ.1 q) (σ.2 q) = .inr (ci, fs)) (k : Nat) (hk : k < n) {v : Value} (hv : fs[k]? = some v) {index : Nat} {ref : String} (hl : (Cond.fieldLink own index ref (T k).2.1 (T k).2.2.1).before args s = true) (hsame : (T k).1 = ref) (hdg : decode cc pc = .ok (.getfield index, 3)) (kk : W p l e R s m args below meth c H locs cells slots Q (F0 m (pc + 3) ls (v :: rest))) : W p l e R s m args below meth c H locs cells slots Q (F0 m pc ls (.ref (ad q) :: rest)) := by
  obtain ⟨hx, hb, -, hown, hts, hK, -⟩ := E
  exact va_get (D := K.1) (ci := ci) (v := v) (C := C) (T := T) (N := n) hx hb hts hin hown hK hw.1 q (by rw [wG_at hq, he]) hc k hk hl (fun x h => by rw [← hsame]; exact h) hv hdg kk
theorem q_putI (E : EC p s m args c cc nL Ts own K N ad cf A) (hw : PW K N ad cf A s.heap σ H locs) (q : Nat) (hq : q < N) {ci n : Nat} {C : String} {T : u_T} {ty0 : Nat → FieldType} (hc : vwCl[ci]? = some (C, T, n)) (hin : ∀ w ∈ u_ws C T n, w ∈ Ts) (hty : ∀ k, k < n → parseFieldDescriptor (T k).2.2.1 = some (ty0 k)) (hnm : ∀ a, a < n → ∀ b, b < n → a ≠ b → (T a).2.1 ≠ (T b).2.1) {fs : List Value} (he : cf q (σ.1 q) (σ.2 q) = .inr (ci, fs)) (k : Nat) (hk : k < n) {x : Int32} (he2 : cf q (upd (σ.1 q) k x) (σ.2 q) = .inr (ci, fs.set k (.int x))) (hlen : k < fs.length) {index : Nat} {ref : String} (hl : (Cond.fieldLink own index ref (T k).2.1 (T k).2.2.1).before args s = true) (hsame : (T k).1 = ref) (hfin : (T k).2.2.2 = false) {ty : FieldType} (hd : parseFieldDescriptor (T k).2.2.1 = some ty) (hn : narrow ty (.int x) = .int x) (hfit : fits ty (.int x) = true) (hdg : decode cc pc = .ok (.putfield index, 3)) (kk : ∀ (H1 : Heap) (locs1 : List Loc), PW K N ad cf A s.heap (sI σ q k x) H1 locs1 → W p l e R s m args below meth c H1 locs1 cells slots Q (F0 m (pc + 3) ls rest)) : W p l e R s m args below meth c H locs cells slots Q (F0 m pc ls (.int x :: .ref (ad q) :: rest)) := by
  obtain ⟨hx, hb, -, hown, hts, hK, hD, -⟩ := E
  refine va_put (D := K.1) (ci := ci) (v := .int x) (ty := ty) (C := C) (T := T) (N := n) hx hb hts hin ty0 hty hnm hown hK hw.1 (hD σ) hw.2 q (by rw [wG_at hq, he]) hc k hk hl (fun x h => by rw [← hsame]; exact h) hfin hd hn hfit hlen hdg (fun H1 locs1 hP _ hS => kk H1 locs1 ⟨?_, hS⟩)
  rw [← wG_setI hq he2]
  exact hP
theorem q_putL (E : EC p s m args c cc nL Ts own K N ad cf A) (hw : PW K N ad cf A s.heap σ H locs) (q : Nat) (hq : q < N) {ci n : Nat} {C : String} {T : u_T} {ty0 : Nat → FieldType} (hc : vwCl[ci]? = some (C, T, n)) (hin : ∀ w ∈ u_ws C T n, w ∈ Ts) (hty : ∀ k, k < n → parseFieldDescriptor (T k).2.2.1 = some (ty0 k)) (hnm : ∀ a, a < n → ∀ b, b < n → a ≠ b → (T a).2.1 ≠ (T b).2.1) {fs : List Value} (he : cf q (σ.1 q) (σ.2 q) = .inr (ci, fs)) (k : Nat) (hk : k < n) {x : Int64} (he2 : cf q (σ.1 q) (vp_updL (σ.2 q) k x) = .inr (ci, fs.set k (.long x))) (hlen : k < fs.length) {index : Nat} {ref : String} (hl : (Cond.fieldLink own index ref (T k).2.1 (T k).2.2.1).before args s = true) (hsame : (T k).1 = ref) (hfin : (T k).2.2.2 = false) (hd : parseFieldDescriptor (T k).2.2.1 = some .long) (hdg : decode cc pc = .ok (.putfield index, 3)) (kk : ∀ (H1 : Heap) (locs1 : List Loc), PW K N ad cf A s.heap (sL σ q k x) H1 locs1 → W p l e R s m args below meth c H1 locs1 cells slots Q (F0 m (pc + 3) ls rest)) : W p l e R s m args below meth c H locs cells slots Q (F0 m pc ls (.long x :: .ref (ad q) :: rest)) := by
  obtain ⟨hx, hb, -, hown, hts, hK, hD, -⟩ := E
  refine va_put (D := K.1) (ci := ci) (v := .long x) (ty := .long) (C := C) (T := T) (N := n) hx hb hts hin ty0 hty hnm hown hK hw.1 (hD σ) hw.2 q (by rw [wG_at hq, he]) hc k hk hl (fun x h => by rw [← hsame]; exact h) hfin hd rfl rfl hlen hdg (fun H1 locs1 hP _ hS => kk H1 locs1 ⟨?_, hS⟩)
  rw [← wG_setL hq he2]
  exact hP
theorem q_ildI (E : EC p s m args c cc nL Ts own K N ad cf A) (hw : PW K N ad cf A s.heap σ H locs) (q : Nat) (hq : q < N) {n : Nat} (he : cf q (σ.1 q) (σ.2 q) = .inl (K.2 0, n, .inl (σ.1 q))) {i : Int32} (hg : 0 ≤ i.toInt ∧ i.toInt < n) (hdg : decode cc pc = .ok (.iaload, 1)) (kk : W p l e R s m args below meth c H locs cells slots Q (F0 m (pc + 1) ls (.int (gI σ q i.toNatClampNeg) :: rest))) : W p l e R s m args below meth c H locs cells slots Q (F0 m pc ls (.int i :: .ref (ad q) :: rest)) := by
  obtain ⟨hx, hb, -, hown, hts, hK, -⟩ := E
  exact va_iald (f := σ.1 q) hx hb hK hw.1 q 0 (by rw [wG_at hq, he]) rfl (vp_in_iff.mpr hg) hdg kk
theorem q_ildB (E : EC p s m args c cc nL Ts own K N ad cf A) (hw : PW K N ad cf A s.heap σ H locs) (q : Nat) (hq : q < N) {n : Nat} (he : cf q (σ.1 q) (σ.2 q) = .inl (K.2 2, n, .inl (σ.1 q))) {i : Int32} (hg : 0 ≤ i.toInt ∧ i.toInt < n) (hdg : decode cc pc = .ok (.baload, 1)) (kk : W p l e R s m args below meth c H locs cells slots Q (F0 m (pc + 1) ls (.int (gI σ q i.toNatClampNeg) :: rest))) : W p l e R s m args below meth c H locs cells slots Q (F0 m pc ls (.int i :: .ref (ad q) :: rest)) := by
  obtain ⟨hx, hb, -, hown, hts, hK, -⟩ := E
  exact va_bald (f := σ.1 q) hx hb hK hw.1 q 2 (by rw [wG_at hq, he]) rfl (vp_in_iff.mpr hg) hdg kk
theorem q_ildL (E : EC p s m args c cc nL Ts own K N ad cf A) (hw : PW K N ad cf A s.heap σ H locs) (q : Nat) (hq : q < N) {n : Nat} (he : cf q (σ.1 q) (σ.2 q) = .inl (K.2 1, n, .inr (.inl (σ.2 q)))) {i : Int32} (hg : 0 ≤ i.toInt ∧ i.toInt < n) (hdg : decode cc pc = .ok (.laload, 1)) (kk : W p l e R s m args below meth c H locs cells slots Q (F0 m (pc + 1) ls (.long (gL σ q i.toNatClampNeg) :: rest))) : W p l e R s m args below meth c H locs cells slots Q (F0 m pc ls (.int i :: .ref (ad q) :: rest)) := by
  obtain ⟨hx, hb, -, hown, hts, hK, -⟩ := E
  exact va_lald (f := σ.2 q) hx hb hK hw.1 q 1 (by rw [wG_at hq, he]) rfl (vp_in_iff.mpr hg) hdg kk
theorem q_istI (E : EC p s m args c cc nL Ts own K N ad cf A) (hw : PW K N ad cf A s.heap σ H locs) (q : Nat) (hq : q < N) {n : Nat} (he : ∀ f g, cf q f g = .inl (K.2 0, n, .inl f)) {i x : Int32} (hg : 0 ≤ i.toInt ∧ i.toInt < n) (hdg : decode cc pc = .ok (.iastore, 1)) (kk : ∀ (H1 : Heap) (locs1 : List Loc), PW K N ad cf A s.heap (sI σ q i.toNatClampNeg x) H1 locs1 → W p l e R s m args below meth c H1 locs1 cells slots Q (F0 m (pc + 1) ls rest)) : W p l e R s m args below meth c H locs cells slots Q (F0 m pc ls (.int x :: .int i :: .ref (ad q) :: rest)) := by
  obtain ⟨hx, hb, -, hown, hts, hK, hD, -⟩ := E
  refine va_iast hx hb hK hw.1 (hD σ) hw.2 q 0 (by rw [wG_at hq, he]) rfl (vp_in_iff.mpr hg) hdg (fun H1 locs1 hP _ hS => kk H1 locs1 ⟨?_, hS⟩)
  rw [← wG_setI hq (he _ _)]
  exact hP
theorem q_istB (E : EC p s m args c cc nL Ts own K N ad cf A) (hw : PW K N ad cf A s.heap σ H locs) (q : Nat) (hq : q < N) {n : Nat} (he : ∀ f g, cf q f g = .inl (K.2 2, n, .inl f)) {i x : Int32} (hg : 0 ≤ i.toInt ∧ i.toInt < n) (hdg : decode cc pc = .ok (.bastore, 1)) (kk : ∀ (H1 : Heap) (locs1 : List Loc), PW K N ad cf A s.heap (sI σ q i.toNatClampNeg (vp_nar .byte x)) H1 locs1 → W p l e R s m args below meth c H1 locs1 cells slots Q (F0 m (pc + 1) ls rest)) : W p l e R s m args below meth c H locs cells slots Q (F0 m pc ls (.int x :: .int i :: .ref (ad q) :: rest)) := by
  obtain ⟨hx, hb, -, hown, hts, hK, hD, -⟩ := E
  refine va_bast hx hb hK hw.1 (hD σ) hw.2 q 2 (by rw [wG_at hq, he]) rfl (vp_in_iff.mpr hg) hdg (fun H1 locs1 hP _ hS => kk H1 locs1 ⟨?_, hS⟩)
  rw [← wG_setI hq (he _ _)]
  exact hP
theorem q_istL (E : EC p s m args c cc nL Ts own K N ad cf A) (hw : PW K N ad cf A s.heap σ H locs) (q : Nat) (hq : q < N) {n : Nat} (he : ∀ f g, cf q f g = .inl (K.2 1, n, .inr (.inl g))) {i : Int32} {x : Int64} (hg : 0 ≤ i.toInt ∧ i.toInt < n) (hdg : decode cc pc = .ok (.lastore, 1)) (kk : ∀ (H1 : Heap) (locs1 : List Loc), PW K N ad cf A s.heap (sL σ q i.toNatClampNeg x) H1 locs1 → W p l e R s m args below meth c H1 locs1 cells slots Q (F0 m (pc + 1) ls rest)) : W p l e R s m args below meth c H locs cells slots Q (F0 m pc ls (.long x :: .int i :: .ref (ad q) :: rest)) := by
  obtain ⟨hx, hb, -, hown, hts, hK, hD, -⟩ := E
  refine va_last hx hb hK hw.1 (hD σ) hw.2 q 1 (by rw [wG_at hq, he]) rfl (vp_in_iff.mpr hg) hdg (fun H1 locs1 hP _ hS => kk H1 locs1 ⟨?_, hS⟩)
  rw [← wG_setL hq (he _ _)]
  exact hP
theorem q_len (E : EC p s m args c cc nL Ts own K N ad cf A) (hw : PW K N ad cf A s.heap σ H locs) (q : Nat) (hq : q < N) {t0 : Nat} {cA : ClassId} {x : vp_A} {ty : FieldType} (he : cf q (σ.1 q) (σ.2 q) = .inl (cA, x)) (ht : (tysK K)[t0]? = some (cA, ty)) {v : Int32} (hv : Int32.ofNat x.1 = v) (hdg : decode cc pc = .ok (.arraylength, 1)) (kk : W p l e R s m args below meth c H locs cells slots Q (F0 m (pc + 1) ls (.int v :: rest))) : W p l e R s m args below meth c H locs cells slots Q (F0 m pc ls (.ref (ad q) :: rest)) := by
  obtain ⟨hx, hb, -, hown, hts, hK, -⟩ := E
  exact va_alen hx hb hK hw.1 q t0 (by rw [wG_at hq, he]) ht hv hdg kk
end QR
