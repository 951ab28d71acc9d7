/-! THE CLASS UNDER THE LAW: its state, told by width, height, counts, marks and text -/
def PZ (σ : vSt) (w h : Nat) (cnt : Nat → Int32) (mk : Nat → Nat) (T : List Int32) : Prop := ∃ us L, CR σ (mkS w h cnt mk us) L T ∧ okS (mkS w h cnt mk us) ∧ OKL L ∧ OKT T
theorem RF_ex {x : Sn} {L : List Sn} {T : List Int32} (ok : okS x) (hL : L.length ≤ 8) (hT : T.length ≤ 40) : ∃ τ, RF τ x L T := by
  refine ⟨(fun q j => if q = 1 then sn x j else if q = 2 then sn (L.getD (j / 66) x) (j % 66) else if q = 3 then T.getD j 0 else if j = 2 then nI L.length else if j = 4 then nI T.length else 0, fun _ _ => 0), fun j _ => rfl, ok, ⟨rfl, hL, fun s y hy j hj => ?_⟩, ⟨rfl, hT, fun i c hc => ?_⟩⟩
  · show sn (L.getD ((66 * s + j) / 66) x) ((66 * s + j) % 66) = sn y j
    rw [show (66 * s + j) / 66 = s by omega, show (66 * s + j) % 66 = j by omega, List.getD_eq_getElem?_getD, hy]
    rfl
  · show T.getD i 0 = c
    rw [List.getD_eq_getElem?_getD, hc]
    rfl
theorem RF_uni {τ : vSt} {x y : Sn} {L L' : List Sn} {T T' : List Int32} (a : RF τ x L T) (b : RF τ y L' T') : x.w = y.w ∧ x.h = y.h ∧ x.cnt = y.cnt ∧ x.mk = y.mk ∧ T = T' ∧ L.length = L'.length := by
  have ga := a.mg
  have gb := b.mg
  have da := a.2.1.1
  have db := b.2.1.1
  have hw : x.w = y.w := (nI_eq (by have := da.2.1; omega) (by have := db.2.1; omega)).mp (ga.1.1.symm.trans gb.1.1)
  have hh : x.h = y.h := (nI_eq (by have := da.2.2.2; omega) (by have := db.2.2.2; omega)).mp (ga.1.2.1.symm.trans gb.1.2.1)
  have hC := gC_16 da
  have hE := gE_40 da
  refine ⟨hw, hh, ?_, ?_, ?_, ?_⟩
  · funext k
    by_cases c : k < 16
    · exact (ga.2.1 k c).symm.trans (gb.2.1 k c)
    · rw [a.2.1.2.2.2 k (by omega), b.2.1.2.2.2 k (by rw [← hw, ← hh]; omega)]
  · funext e
    by_cases c : e < 40
    · have h3 := ga.2.2.2 e
      have h4 := gb.2.2.2 e
      exact (nI_eq (by omega) (by omega)).mp ((ga.2.2.1 e c).symm.trans (gb.2.2.1 e c))
    · rw [a.2.1.2.2.1 e (by omega), b.2.1.2.2.1 e (by rw [← hw, ← hh]; omega)]
  · have ta := a.2.2.2
    have tb := b.2.2.2
    have hl : T.length = T'.length := (nI_eq (by have := ta.2.1; omega) (by have := tb.2.1; omega)).mp (ta.1.symm.trans tb.1)
    apply List.ext_getElem?
    intro i
    by_cases c : i < T.length
    · rw [List.getElem?_eq_getElem c, List.getElem?_eq_getElem (by omega)]
      have e1 := ta.2.2 i _ (List.getElem?_eq_getElem c)
      have e2 := tb.2.2 i _ (List.getElem?_eq_getElem (by omega))
      exact congrArg some (e1.symm.trans e2)
    · rw [List.getElem?_eq_none (by omega), List.getElem?_eq_none (by omega)]
  · have ta := a.2.2.1
    have tb := b.2.2.1
    exact (nI_eq (by have := ta.2.1; omega) (by have := tb.2.1; omega)).mp (ta.1.symm.trans tb.1)
theorem PZ.get {σ : vSt} {w h : Nat} {cnt : Nat → Int32} {mk : Nat → Nat} {T : List Int32} (q : PZ σ w h cnt mk T) : ∃ τ us L, RF τ (mkS w h cnt mk us) L T ∧ CR σ (mkS w h cnt mk us) L T ∧ OKT T ∧ Rl σ τ := by
  obtain ⟨us, L, c, ok, o1, o2⟩ := q
  obtain ⟨n, _, _, _, hL, _⟩ := c.2.2.2.1
  obtain ⟨τ, r⟩ := RF_ex ok hL c.2.2.2.2.2.1
  exact ⟨τ, us, L, r, c, o2, ⟨_, L, T, c, r, o1, o2⟩⟩
theorem PZ.put {σ τ : vSt} {x : Sn} {L : List Sn} {T : List Int32} (hR : Rl σ τ) (r : RF τ x L T) : PZ σ x.w x.h x.cnt x.mk T := by
  obtain ⟨x', L', T', c, r', o1, o2⟩ := hR
  obtain ⟨e1, e2, e3, e4, e5, _⟩ := RF_uni r r'
  rw [e1, e2, e3, e4, e5]
  exact ⟨x'.us, L', c, r'.2.1, o1, o2⟩
theorem PZ.dim {σ : vSt} {w h : Nat} {cnt : Nat → Int32} {mk : Nat → Nat} {T : List Int32} (q : PZ σ w h cnt mk T) : dim w h := by
  obtain ⟨us, L, c, ok, o1, o2⟩ := q
  exact ok.1
theorem PZ.out {σ : vSt} {w h : Nat} {cnt : Nat → Int32} {mk : Nat → Nat} {T : List Int32} (q : PZ σ w h cnt mk T) : (∀ e, gE w h ≤ e → mk e = 0) ∧ (∀ c, gC w h ≤ c → cnt c = -1) ∧ T.length ≤ 40 := by
  obtain ⟨us, L, c, ok, o1, o2⟩ := q
  exact ⟨ok.2.2.1, ok.2.2.2, c.2.2.2.2.2.1⟩
theorem CR.f30 {σ σ' : vSt} {x : Sn} {L : List Sn} {T : List Int32} (c : CR σ x L T) (hI : ∀ q j, q < 30 → gI σ' q j = gI σ q j) (hL : ∀ q j, q < 30 → gL σ' q j = gL σ q j) : CR σ' x L T := by
  obtain ⟨g, s, u, hh, t⟩ := c
  have f : FG (fun q _ => 30 ≤ q) (fun q _ => 30 ≤ q) σ σ' := ⟨fun q j h => hI q j (by omega), fun q j h => hL q j (by omega)⟩
  exact ⟨g.fg f (fun q j z => by have : 30 ≤ q := z; omega) (fun q j z => by have : 30 ≤ q := z; omega), SY_of s (fun j _ _ _ => hI 6 j (by decide)) (fun j _ => hI 7 j (by decide)) (fun j _ => hL 6 j (by decide)), fun r hr => (hI 9 r (by decide)).trans (u r hr), hh.fg (fun q j a b => hI q j (by omega)) (fun q j a b => hL q j (by omega)), TC_fg t (fun q j z => hI q j (by omega))⟩
theorem PZ.fg {σ σ' : vSt} {w h : Nat} {cnt : Nat → Int32} {mk : Nat → Nat} {T : List Int32} (q : PZ σ w h cnt mk T) (hI : ∀ q j, q < 30 → gI σ' q j = gI σ q j) (hL : ∀ q j, q < 30 → gL σ' q j = gL σ q j) : PZ σ' w h cnt mk T := by
  obtain ⟨us, L, c, ok, o1, o2⟩ := q
  exact ⟨us, L, c.f30 hI hL, ok, o1, o2⟩
/-- as at first: nothing kept -/
def PS (σ : vSt) : Prop := ∃ us, CR σ (mkS 3 3 (fun _ => -1) z0 us) [] [] ∧ okS (mkS 3 3 (fun _ => -1) z0 us)
theorem PS.fg {σ σ' : vSt} (q : PS σ) (hI : ∀ q j, q < 30 → gI σ' q j = gI σ q j) (hL : ∀ q j, q < 30 → gL σ' q j = gL σ q j) : PS σ' := by
  obtain ⟨us, c, ok⟩ := q
  exact ⟨us, c.f30 hI hL, ok⟩
theorem z_two {F : Option (Int32 × vSt)} {r r2 : Int32} {τ1 τ2 : vSt} (h1 : F = some (r, τ1)) (h2 : F = some (r2, τ2)) : r = r2 ∧ τ1 = τ2 := Prod.mk.inj (Option.some.inj (h1.symm.trans h2))
theorem z_one {F : Option Int32} {r r2 : Int32} (h1 : F = some r) (h2 : F = some r2) : r = r2 := Option.some.inj (h1.symm.trans h2)
section ZC
variable {σ : vSt} {w h : Nat} {cnt : Nat → Int32} {mk : Nat → Nat} {T : List Int32}
theorem z_mark (q : PZ σ w h cnt mk T) {e v : Nat} (he : e < gE w h) (hv : v < 3) : ∃ σ', f_X6_mark (nI e) (nI v) σ = some (nI (mk e), σ') ∧ PZ σ' w h cnt (um mk e v) T := by
  obtain ⟨τ, us, L, r, c, o2, hR⟩ := q.get
  have h40 := gE_40 q.dim
  obtain ⟨r1, σ', τ', h1, h2, h3⟩ := s_mark σ τ (nI e) (nI v) 0 hR
  rcases m_mark r (nI e) (nI v) with ⟨e', v', τ2, he', hv', ee, ev, e2, r2⟩ | ⟨hn, e2⟩
  · have he'' : e' < gE w h := he'
    obtain ⟨rfl, rfl⟩ := z_two h2 e2
    have q1 : e = e' := (nI_eq (by omega) (by omega)).mp ee
    have q2 : v = v' := (nI_eq (by omega) (by omega)).mp ev
    subst q1; subst q2
    exact ⟨σ', h1, PZ.put h3 r2⟩
  · rcases hn with z | z
    · exact absurd rfl (z e he)
    · exact absurd rfl (z v hv)
theorem z_markBad (q : PZ σ w h cnt mk T) {a b : Int32} (hn : (∀ e, e < gE w h → a ≠ nI e) ∨ ∀ v, v < 3 → b ≠ nI v) : ∃ σ', f_X6_mark a b σ = some (-2, σ') ∧ PZ σ' w h cnt mk T := by
  obtain ⟨τ, us, L, r, c, o2, hR⟩ := q.get
  obtain ⟨r1, σ', τ', h1, h2, h3⟩ := s_mark σ τ a b 0 hR
  rcases m_mark r a b with ⟨e', v', τ2, he', hv', ee, ev, e2, r2⟩ | ⟨_, e2⟩
  · rcases hn with z | z
    · exact absurd ee (z e' he')
    · exact absurd ev (z v' hv')
  · obtain ⟨rfl, rfl⟩ := z_two h2 e2
    exact ⟨σ', h1, PZ.put h3 r⟩
theorem z_setCount (q : PZ σ w h cnt mk T) {c : Nat} {b : Int32} (hc : c < gC w h) (hb : cok b) : ∃ σ', f_X6_setCount (nI c) b σ = some (cnt c, σ') ∧ PZ σ' w h (fun k => if k = c then b else cnt k) mk T := by
  obtain ⟨τ, us, L, r, cc, o2, hR⟩ := q.get
  have h16 := gC_16 q.dim
  obtain ⟨r1, σ', τ', h1, h2, h3⟩ := s_setCount σ τ (nI c) b 0 hR
  rcases m_setCount r (nI c) b with ⟨c', τ2, hc', ee, hb', e2, r2⟩ | ⟨hn, e2⟩
  · have hc'' : c' < gC w h := hc'
    obtain ⟨rfl, rfl⟩ := z_two h2 e2
    have q1 : c = c' := (nI_eq (by omega) (by omega)).mp ee
    subst q1
    exact ⟨σ', h1, PZ.put h3 r2⟩
  · rcases hn with z | z
    · exact absurd rfl (z c hc)
    · exact absurd hb z
theorem z_setCountBad (q : PZ σ w h cnt mk T) {a b : Int32} (hn : (∀ c, c < gC w h → a ≠ nI c) ∨ ¬ cok b) : ∃ σ', f_X6_setCount a b σ = some (-2, σ') ∧ PZ σ' w h cnt mk T := by
  obtain ⟨τ, us, L, r, cc, o2, hR⟩ := q.get
  obtain ⟨r1, σ', τ', h1, h2, h3⟩ := s_setCount σ τ a b 0 hR
  rcases m_setCount r a b with ⟨c', τ2, hc', ee, hb', e2, r2⟩ | ⟨_, e2⟩
  · rcases hn with z | z
    · exact absurd ee (z c' hc')
    · exact absurd hb' z
  · obtain ⟨rfl, rfl⟩ := z_two h2 e2
    exact ⟨σ', h1, PZ.put h3 r⟩
theorem z_wipe (q : PZ σ w h cnt mk T) : ∃ σ', f_X6_wipe σ = some (nI (gE w h) - nI (cnP (gE w h) (fun e => mk e = 0)), σ') ∧ PZ σ' w h cnt z0 T := by
  obtain ⟨τ, us, L, r, cc, o2, hR⟩ := q.get
  obtain ⟨r1, σ', τ', h1, h2, h3⟩ := s_wipe σ τ 0 0 0 hR
  obtain ⟨τ2, e2, r2⟩ := m_wipe r
  obtain ⟨rfl, rfl⟩ := z_two h2 e2
  exact ⟨σ', h1, PZ.put h3 r2⟩
theorem z_type (q : PZ σ w h cnt mk T) {k : Nat} (hk : k ≤ 127) (hT : T.length < 40) : ∃ σ', f_X6_type (nI k) σ = some (nI (T.length + 1), σ') ∧ PZ σ' w h cnt mk (T ++ [nI k]) := by
  obtain ⟨τ, us, L, r, cc, o2, hR⟩ := q.get
  obtain ⟨r1, σ', τ', h1, h2, h3⟩ := s_type σ τ (nI k) 0 0 hR
  rcases m_type r (nI k) with ⟨_, ⟨z, _⟩ | ⟨_, τ2, e2, r2⟩⟩ | ⟨hn, _⟩
  · omega
  · obtain ⟨rfl, rfl⟩ := z_two h2 e2
    exact ⟨σ', h1, PZ.put h3 r2⟩
  · exact absurd rfl (hn k hk)
theorem z_clear (q : PZ σ w h cnt mk T) : ∃ σ', f_X6_clearText σ = some (nI T.length, σ') ∧ PZ σ' w h cnt mk [] := by
  obtain ⟨τ, us, L, r, cc, o2, hR⟩ := q.get
  obtain ⟨r1, σ', τ', h1, h2, h3⟩ := s_clear σ τ 0 0 0 hR
  obtain ⟨τ2, e2, r2⟩ := m_clearText r
  obtain ⟨rfl, rfl⟩ := z_two h2 e2
  exact ⟨σ', h1, PZ.put h3 r2⟩
theorem z_fault (q : PZ σ w h cnt mk T) : ∃ σ', f_X6_fault σ = some (fltV T, σ') ∧ PZ σ' w h cnt mk T := by
  obtain ⟨τ, us, L, r, cc, o2, hR⟩ := q.get
  obtain ⟨r1, σ', τ', h1, h2, h3⟩ := s_fault σ τ 0 0 0 hR
  obtain ⟨τ2, e2, r2⟩ := m_fault r o2.ne
  obtain ⟨rfl, rfl⟩ := z_two h2 e2
  exact ⟨σ', h1, PZ.put h3 r2⟩
theorem dim_of {w h : Nat} (a : 1 ≤ w) (b : w ≤ 4) (c : 1 ≤ h) (d : h ≤ 4) : dim w h := ⟨a, by omega, c, by omega⟩
theorem z_setPuzzle (q : PZ σ w h cnt mk T) {w' h' : Nat} {cs : List Int32} (hr : rdT T.length (tk T 0) 0 4 1 [] = .inl (w', h', cs)) : ∃ σ', f_X6_setPuzzle σ = some (nI (gE w' h'), σ') ∧ PZ σ' w' h' (fun c => if gC w' h' ≤ c then -1 else txV cs c) z0 T := by
  obtain ⟨τ, us, L, r, cc, o2, hR⟩ := q.get
  obtain ⟨r1, σ', τ', h1, h2, h3⟩ := s_setPuzzle σ τ 0 0 0 hR
  obtain ⟨τ2, ⟨p, e1, _⟩ | ⟨w2, h2', cs2, e1, e2, r2⟩⟩ := m_setPuzzle r o2.ne (fun w h a b c d => dim_of a b c d)
  · rw [hr] at e1; cases e1
  · rw [hr] at e1
    cases e1
    obtain ⟨rfl, rfl⟩ := z_two h2 e2
    exact ⟨σ', h1, PZ.put h3 r2⟩
theorem z_setPuzzleNo (q : PZ σ w h cnt mk T) {p : Nat} (hr : rdT T.length (tk T 0) 0 4 1 [] = .inr p) : ∃ σ', f_X6_setPuzzle σ = some (-3, σ') ∧ PZ σ' w h cnt mk T := by
  obtain ⟨τ, us, L, r, cc, o2, hR⟩ := q.get
  obtain ⟨r1, σ', τ', h1, h2, h3⟩ := s_setPuzzle σ τ 0 0 0 hR
  obtain ⟨τ2, ⟨p, e1, e2, r2⟩ | ⟨w2, h2', cs2, e1, _⟩⟩ := m_setPuzzle r o2.ne (fun w h a b c d => dim_of a b c d)
  · obtain ⟨rfl, rfl⟩ := z_two h2 e2
    exact ⟨σ', h1, PZ.put h3 r2⟩
  · rw [hr] at e1; cases e1
theorem z_edge (q : PZ σ w h cnt mk T) {e : Nat} (he : e < gE w h) : f_X6_edge (nI e) σ = some (nI (mk e)) := by
  obtain ⟨τ, us, L, r, cc, o2, hR⟩ := q.get
  have h40 := gE_40 q.dim
  obtain ⟨r1, h1, h2, _⟩ := s_edge σ τ (nI e) 0 0 hR
  rcases m_edge r (nI e) with ⟨e', he', ee, e2⟩ | ⟨hn, _⟩
  · have he'' : e' < gE w h := he'
    have q1 : e = e' := (nI_eq (by omega) (by omega)).mp ee
    subst q1
    rw [h1, z_one h2 e2]; rfl
  · exact absurd rfl (hn e he)
theorem z_edgeBad (q : PZ σ w h cnt mk T) {a : Int32} (hn : ∀ e, e < gE w h → a ≠ nI e) : f_X6_edge a σ = some (-2) := by
  obtain ⟨τ, us, L, r, cc, o2, hR⟩ := q.get
  obtain ⟨r1, h1, h2, _⟩ := s_edge σ τ a 0 0 hR
  rcases m_edge r a with ⟨e', he', ee, e2⟩ | ⟨_, e2⟩
  · exact absurd ee (hn e' he')
  · rw [h1, z_one h2 e2]
theorem z_countOf (q : PZ σ w h cnt mk T) {c : Nat} (hc : c < gC w h) : f_X6_countOf (nI c) σ = some (cnt c) := by
  obtain ⟨τ, us, L, r, cc, o2, hR⟩ := q.get
  have h16 := gC_16 q.dim
  obtain ⟨r1, h1, h2, _⟩ := s_countOf σ τ (nI c) 0 0 hR
  rcases m_countOf r (nI c) with ⟨e', he', ee, e2⟩ | ⟨hn, _⟩
  · have he'' : e' < gC w h := he'
    have q1 : c = e' := (nI_eq (by omega) (by omega)).mp ee
    subst q1
    rw [h1, z_one h2 e2]; rfl
  · exact absurd rfl (hn c hc)
theorem z_countOfBad (q : PZ σ w h cnt mk T) {a : Int32} (hn : ∀ e, e < gC w h → a ≠ nI e) : f_X6_countOf a σ = some (-2) := by
  obtain ⟨τ, us, L, r, cc, o2, hR⟩ := q.get
  obtain ⟨r1, h1, h2, _⟩ := s_countOf σ τ a 0 0 hR
  rcases m_countOf r a with ⟨e', he', ee, e2⟩ | ⟨_, e2⟩
  · exact absurd ee (hn e' he')
  · rw [h1, z_one h2 e2]
theorem z_cnt (q : PZ σ w h cnt mk T) {k : Nat} (hk : k ≤ 15) : ∃ us L, f_X6_count (nI k) σ = some (cntV (mkS w h cnt mk us) L T k) := by
  obtain ⟨τ, us, L, r, cc, o2, hR⟩ := q.get
  obtain ⟨r1, h1, h2, _⟩ := s_count σ τ (nI k) 0 0 hR
  refine ⟨us, L, ?_⟩
  rw [h1, z_one h2 (m_count' r (by omega))]
theorem z_countBad (q : PZ σ w h cnt mk T) {a : Int32} (hn : ∀ k, k ≤ 15 → a ≠ nI k) : f_X6_count a σ = some (-2) := by
  obtain ⟨τ, us, L, r, cc, o2, hR⟩ := q.get
  obtain ⟨r1, h1, h2, _⟩ := s_count σ τ a 0 0 hR
  rcases m_count r a with ⟨e', he', ee, e2⟩ | ⟨_, e2⟩
  · exact absurd ee (hn e' he')
  · rw [h1, z_one h2 e2]
theorem z_count0 (q : PZ σ w h cnt mk T) : f_X6_count (nI 0) σ = some (nI w) := by obtain ⟨us, L, e⟩ := z_cnt q (k := 0) (by decide); exact e
theorem z_count1 (q : PZ σ w h cnt mk T) : f_X6_count (nI 1) σ = some (nI h) := by obtain ⟨us, L, e⟩ := z_cnt q (k := 1) (by decide); exact e
theorem z_count2 (q : PZ σ w h cnt mk T) : f_X6_count (nI 2) σ = some (nI (gE w h)) := by obtain ⟨us, L, e⟩ := z_cnt q (k := 2) (by decide); exact e
theorem z_count3 (q : PZ σ w h cnt mk T) : f_X6_count (nI 3) σ = some (nI (cnP (gE w h) (fun e => mk e = 0))) := by obtain ⟨us, L, e⟩ := z_cnt q (k := 3) (by decide); exact e
theorem z_count4 (q : PZ σ w h cnt mk T) : f_X6_count (nI 4) σ = some (nI (cnP (gE w h) (fun e => mk e = 1))) := by obtain ⟨us, L, e⟩ := z_cnt q (k := 4) (by decide); exact e
theorem z_count5 (q : PZ σ w h cnt mk T) : f_X6_count (nI 5) σ = some (nI (cnP (gC w h) (fun c => ¬ cnt c = -1))) := by obtain ⟨us, L, e⟩ := z_cnt q (k := 5) (by decide); exact e
theorem z_count15 (q : PZ σ w h cnt mk T) : f_X6_count (nI 15) σ = some (nI T.length) := by obtain ⟨us, L, e⟩ := z_cnt q (k := 15) (by decide); exact e
theorem z_edgeAt0 (q : PZ σ w h cnt mk T) {p k : Nat} (hp : p < gC w h) (hk : k < 2 ^ 31) : f_X6_edgeAt (nI 0) (nI p) (nI k) σ = some (oI ((gArL w h p)[k]?)) := by
  obtain ⟨τ, us, L, r, cc, o2, hR⟩ := q.get
  have h16 := gC_16 q.dim
  obtain ⟨r1, h1, h2, _⟩ := s_edgeAt σ τ 0 (nI p) (nI k) hR
  rw [if_pos rfl] at h1 h2
  rcases m_edgeAt0 r (nI p) (nI k) with ⟨p', k', hp', hk', ep, ek, e2⟩ | ⟨hn, _⟩
  · have hp'' : p' < gC w h := hp'
    have q1 : p = p' := (nI_eq (by omega) (by omega)).mp ep
    have q2 : k = k' := (nI_eq hk hk').mp ek
    subst q1; subst q2
    have h1' : f_X6_edgeAt (nI 0) (nI p) (nI k) σ = some r1 := h1
    rw [h1', z_one h2 e2]; rfl
  · rcases hn with z | z
    · exact absurd rfl (z p hp)
    · exact absurd (nI_nn k hk) z
theorem z_edgeAt1 (q : PZ σ w h cnt mk T) {p k : Nat} (hp : p < gK w h) (hk : k < 2 ^ 31) : f_X6_edgeAt (nI 1) (nI p) (nI k) σ = some (oI ((gToL w h p)[k]?)) := by
  obtain ⟨τ, us, L, r, cc, o2, hR⟩ := q.get
  have h25 := gK_25 q.dim
  obtain ⟨r1, h1, h2, _⟩ := s_edgeAt σ τ 1 (nI p) (nI k) hR
  rw [if_neg (by decide)] at h1 h2
  rcases m_edgeAt1 r (nI p) (nI k) with ⟨p', k', hp', hk', ep, ek, e2⟩ | ⟨hn, _⟩
  · have hp'' : p' < gK w h := hp'
    have q1 : p = p' := (nI_eq (by omega) (by omega)).mp ep
    have q2 : k = k' := (nI_eq hk hk').mp ek
    subst q1; subst q2
    have h1' : f_X6_edgeAt (nI 1) (nI p) (nI k) σ = some r1 := h1
    rw [h1', z_one h2 e2]; rfl
  · rcases hn with z | z
    · exact absurd rfl (z p hp)
    · exact absurd (nI_nn k hk) z
theorem z_edgeAt0Bad (q : PZ σ w h cnt mk T) {a b : Int32} (hn : (∀ p, p < gC w h → a ≠ nI p) ∨ ¬ nI 0 ≤ b) : f_X6_edgeAt (nI 0) a b σ = some (-2) := by
  obtain ⟨τ, us, L, r, cc, o2, hR⟩ := q.get
  obtain ⟨r1, h1, h2, _⟩ := s_edgeAt σ τ 0 a b hR
  rw [if_pos rfl] at h1 h2
  have h1' : f_X6_edgeAt (nI 0) a b σ = some r1 := h1
  rcases m_edgeAt0 r a b with ⟨p', k', hp', hk', ep, ek, e2⟩ | ⟨_, e2⟩
  · rcases hn with z | z
    · exact absurd ep (z p' hp')
    · exact absurd (by rw [ek]; exact nI_nn k' hk') z
  · rw [h1', z_one h2 e2]
theorem z_edgeAt1Bad (q : PZ σ w h cnt mk T) {a b : Int32} (hn : (∀ p, p < gK w h → a ≠ nI p) ∨ ¬ nI 0 ≤ b) : f_X6_edgeAt (nI 1) a b σ = some (-2) := by
  obtain ⟨τ, us, L, r, cc, o2, hR⟩ := q.get
  obtain ⟨r1, h1, h2, _⟩ := s_edgeAt σ τ 1 a b hR
  rw [if_neg (by decide)] at h1 h2
  have h1' : f_X6_edgeAt (nI 1) a b σ = some r1 := h1
  rcases m_edgeAt1 r a b with ⟨p', k', hp', hk', ep, ek, e2⟩ | ⟨_, e2⟩
  · rcases hn with z | z
    · exact absurd ep (z p' hp')
    · exact absurd (by rw [ek]; exact nI_nn k' hk') z
  · rw [h1', z_one h2 e2]
theorem z_way (q : PZ σ w h cnt mk T) {e k : Nat} (he : e < gE w h) (hk : k < 3) : ∃ us, f_X6_way (nI e) (nI k) σ = some (wayV (mkS w h cnt mk us) e k) := by
  obtain ⟨τ, us, L, r, cc, o2, hR⟩ := q.get
  have h40 := gE_40 q.dim
  obtain ⟨r1, τ', h1, h2, _⟩ := s_way σ τ (nI e) (nI k) 0 hR
  rcases m_way r (nI e) (nI k) with ⟨e', k', τ2, he', hk', ee, ek, e2, _⟩ | ⟨hn, _⟩
  · have he'' : e' < gE w h := he'
    have q1 : e = e' := (nI_eq (by omega) (by omega)).mp ee
    have q2 : k = k' := (nI_eq (by omega) (by omega)).mp ek
    subst q1; subst q2
    exact ⟨us, by rw [h1, (z_two h2 e2).1]⟩
  · rcases hn with z | z
    · exact absurd rfl (z e he)
    · exact absurd rfl (z k hk)
theorem z_wayBad (q : PZ σ w h cnt mk T) {a b : Int32} (hn : (∀ e, e < gE w h → a ≠ nI e) ∨ ∀ k, k < 3 → b ≠ nI k) : f_X6_way a b σ = some (-2) := by
  obtain ⟨τ, us, L, r, cc, o2, hR⟩ := q.get
  obtain ⟨r1, τ', h1, h2, _⟩ := s_way σ τ a b 0 hR
  rcases m_way r a b with ⟨e', k', τ2, he', hk', ee, ek, e2, _⟩ | ⟨_, e2⟩
  · rcases hn with z | z
    · exact absurd ee (z e' he')
    · exact absurd ek (z k' hk')
  · rw [h1, (z_two h2 e2).1]
theorem z_misfit (q : PZ σ w h cnt mk T) (a : Int32) : ∃ us, f_X6_misfit a σ = some (misV (mkS w h cnt mk us) a) := by
  obtain ⟨us, L, c, ok, _, _⟩ := q
  exact ⟨us, k_misfit c ok a⟩
theorem z_hintBad (q : PZ σ w h cnt mk T) {a : Int32} (hn : ∀ k, k ≤ 3 → a ≠ nI k) : ∃ σ', f_X6_hint a σ = some (-2, σ') ∧ PZ σ' w h cnt mk T := by
  obtain ⟨τ, us, L, r, cc, o2, hR⟩ := q.get
  obtain ⟨r1, σ', τ', h1, h2, h3⟩ := s_hint σ τ a 0 0 hR
  rcases m_hint r a with ⟨k, τ2, hk, ek, _⟩ | ⟨_, e2⟩
  · exact absurd ek (hn k hk)
  · obtain ⟨rfl, rfl⟩ := z_two h2 e2
    exact ⟨σ', h1, PZ.put h3 r⟩
theorem z_deduceAllBad (q : PZ σ w h cnt mk T) {a : Int32} (hn : ∀ l, l ≤ 7 → a ≠ nI l) : ∃ σ', f_X6_deduceAll a σ = some (-2, σ') ∧ PZ σ' w h cnt mk T := by
  obtain ⟨τ, us, L, r, cc, o2, hR⟩ := q.get
  obtain ⟨r1, σ', τ', h1, h2, h3⟩ := s_deduceAll σ τ a 0 0 hR
  obtain ⟨rfl, rfl⟩ := z_two h2 (m_daN hn)
  exact ⟨σ', h1, PZ.put h3 r⟩
end ZC
theorem z_start : ∃ (σ1 σ2 : vSt) (e1 : Int64), f_X1_lay (3 : Int32) (3 : Int32) st_0 = some σ1 ∧ f_X1_allEdges σ1 = some e1 ∧ f_X0_begin 6 (0 : Int64) e1 (mergeS 6 σ1 zC) = some σ2 ∧ PS (mergeS 8 σ2 zC) := by
  obtain ⟨σ1, σ2, τ1, e1, h1, h2, h3, h4, hR⟩ := p_start
  obtain ⟨τ2, e4, r⟩ := m_tail st_0 (fun _ _ => rfl)
  have : τ1 = τ2 := Option.some.inj (h4.symm.trans e4)
  subst this
  refine ⟨σ1, σ2, e1, h1, h2, h3, ?_⟩
  obtain ⟨x', L', T', c, r', _, _⟩ := hR
  obtain ⟨a1, a2, a3, a4, a5, a6⟩ := RF_uni r r'
  have hL : L' = [] := List.length_eq_zero_iff.mp a6.symm
  subst hL
  subst a5
  have ex : x' = mkS 3 3 (fun _ => -1) z0 x'.us := by
    show (x'.w, x'.h, x'.cnt, x'.mk, x'.us) = (3, 3, (fun _ => -1), z0, x'.us)
    rw [← a1, ← a2, ← a3, ← a4]
    rfl
  exact ⟨x'.us, by rw [← ex]; exact c, by rw [← ex]; exact r'.2.1⟩
theorem z_undo {σ : vSt} (q : PS σ) : ∃ σ', f_X6_undo σ = some (-3, σ') ∧ PZ σ' 3 3 (fun _ => -1) z0 [] := by
  obtain ⟨us, c, ok⟩ := q
  have oL : OKL [] := fun s y hy => by simp at hy
  have oT : OKT [] := fun s y hy => by simp at hy
  obtain ⟨τ, r⟩ := RF_ex (L := []) (T := []) ok (by decide) (by decide)
  obtain ⟨r1, σ', τ', g1, g2, g3⟩ := s_undo σ τ 0 0 0 ⟨_, [], [], c, r, oL, oT⟩
  rcases m_undoR r oL with ⟨_, e2⟩ | ⟨z, _⟩
  · obtain ⟨rfl, rfl⟩ := z_two g2 e2
    exact ⟨σ', g1, PZ.put g3 r⟩
  · exact absurd z (by decide)
