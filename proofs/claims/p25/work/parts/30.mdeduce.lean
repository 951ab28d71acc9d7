/-! THE REFERENCE'S WHOLE STATE; deductions that are made -/
def TX (τ : vSt) (T : List Int32) : Prop := gI τ 0 4 = nI T.length ∧ T.length ≤ 40 ∧ ∀ i c, T[i]? = some c → gI τ 3 i = c
def RF (τ : vSt) (x : Sn) (L : List Sn) (T : List Int32) : Prop := CU τ x ∧ okS x ∧ HS τ L ∧ TX τ T
theorem HS.same {τ τ' : vSt} {L : List Sn} (hh : HS τ L) (a : gI τ' 0 2 = gI τ 0 2) (b : ∀ j, gI τ' 2 j = gI τ 2 j) : HS τ' L := ⟨a.trans hh.1, hh.2.1, fun s x hx j hj => (b _).trans (hh.2.2 s x hx j hj)⟩
theorem TX.same {τ τ' : vSt} {T : List Int32} (hh : TX τ T) (a : gI τ' 0 4 = gI τ 0 4) (b : ∀ j, gI τ' 3 j = gI τ 3 j) : TX τ' T := ⟨a.trans hh.1, hh.2.1, fun s x hx => (b _).trans (hh.2.2 s x hx)⟩
theorem WT_no {q j : Nat} (x : WT q j) : q ≠ 2 ∧ q ≠ 3 ∧ (q = 0 → j ≠ 2 ∧ j ≠ 4) := by
  rcases x with (((((a | a | a | a) | a) | a) | x) | x | x | x | x) | x <;> omega
theorem RF.fr {τ τ' : vSt} {x : Sn} {L : List Sn} {T : List Int32} (r : RF τ x L T) (f : Fr WT τ τ') : RF τ' x L T :=
  ⟨fun j hj => (f.1 j).trans (r.1 j hj), r.2.1, r.2.2.1.same (f.2.1 0 2 (fun z => ((WT_no z).2.2 rfl).1 rfl)) (fun j => f.2.1 2 j (fun z => (WT_no z).1 rfl)), r.2.2.2.same (f.2.1 0 4 (fun z => ((WT_no z).2.2 rfl).2 rfl)) (fun j => f.2.1 3 j (fun z => (WT_no z).2.1 rfl))⟩
theorem RF.fb {τ τ' : vSt} {x : Sn} {L : List Sn} {T : List Int32} (r : RF τ x L T) (f : Fr WB τ τ') : RF τ' x L T := r.fr (f.mono (fun _ _ q => Or.inl (Or.inl q)))
theorem RF.fl {τ τ' : vSt} {x : Sn} {L : List Sn} {T : List Int32} (r : RF τ x L T) (f : Fr WL τ τ') : RF τ' x L T := r.fb (f.mono (fun _ _ q => Or.inl (Or.inl q)))
theorem RF.mg {τ : vSt} {x : Sn} {L : List Sn} {T : List Int32} (r : RF τ x L T) : MG τ x.w x.h x.cnt x.mk := r.1.mg r.2.1
theorem RF.kp {τ τ' : vSt} {x : Sn} {L L' : List Sn} {T : List Int32} (r : RF τ x L T) (hh : HS τ' L') (f : Fr WP τ τ') : RF τ' x L' T :=
  ⟨fun j hj => (f.1 j).trans (r.1 j hj), r.2.1, hh, r.2.2.2.same (f.2.1 0 4 (fun z => by rcases z with z | z <;> omega)) (fun j => f.2.1 3 j (fun z => by rcases z with z | z <;> omega))⟩
def uu (us : Nat → Int32) (r : Nat) : Nat → Int32 := fun k => if k = r then us r + nI 1 else us k
def dd (x : Sn) (r e : Nat) : Sn := mkS x.w x.h x.cnt (um x.mk e (bec r)) (uu x.us r)
theorem okS_dd {x : Sn} (o : okS x) {r e : Nat} (he : e < gE x.w x.h) : okS (dd x r e) := by
  refine ⟨o.1, fun k => ?_, fun k hk => ?_, o.2.2.2⟩
  · show um x.mk e (bec r) k < 3
    by_cases a : k = e
    · rw [a, um_e]; exact (bec_3 r).1
    · rw [um_n a]; exact o.2.1 k
  · have hk' : gE x.w x.h ≤ k := hk
    show um x.mk e (bec r) k = 0
    rw [um_n (by omega)]; exact o.2.2.1 k hk'
theorem CU_us {τ : vSt} {x : Sn} (c : CU τ x) {r : Nat} (hr : r < 8) : gI τ 1 (58 + r) = x.us r := by
  rw [c (58 + r) (by omega)]
  unfold sn
  rw [if_neg (by omega), if_neg (by omega), if_neg (by omega), if_neg (by omega), show 58 + r - 58 = r by omega]
theorem CU_dd {τ : vSt} {x : Sn} (c : CU τ x) {r e : Nat} (hr : r < 8) (he : e < 40) : CU (sI (sI τ 1 (18 + e) (nI (bec r))) 1 (58 + r) (x.us r + nI 1)) (dd x r e) := by
  intro j hj
  have hcj := c j hj
  unfold sn at hcj ⊢
  show _ = if j = 0 then nI x.w else if j = 1 then nI x.h else if j < 18 then x.cnt (j - 2) else if j < 58 then nI (um x.mk e (bec r) (j - 18)) else uu x.us r (j - 58)
  by_cases a : j = 58 + r
  · rw [a, sI_same, if_neg (by omega), if_neg (by omega), if_neg (by omega), if_neg (by omega), show 58 + r - 58 = r by omega]
    exact (if_pos rfl).symm
  · rw [sI_ne _ _ (Or.inr a)]
    by_cases b : j = 18 + e
    · rw [b, sI_same, if_neg (by omega), if_neg (by omega), if_neg (by omega), if_pos (by omega), show 18 + e - 18 = e by omega, um_e]
    · rw [sI_ne _ _ (Or.inr b), hcj]
      by_cases d1 : j = 0
      · rw [if_pos d1, if_pos d1]
      rw [if_neg d1, if_neg d1]
      by_cases d2 : j = 1
      · rw [if_pos d2, if_pos d2]
      rw [if_neg d2, if_neg d2]
      by_cases d3 : j < 18
      · rw [if_pos d3, if_pos d3]
      rw [if_neg d3, if_neg d3]
      by_cases d4 : j < 58
      · rw [if_pos d4, if_pos d4, um_n (by omega)]
      rw [if_neg d4, if_neg d4]
      exact (if_neg (by omega)).symm
theorem g58 {r : Nat} (hr : r < 8) : (nI 58 + nI r).toNatClampNeg = 58 + r ∧ (0 ≤ (nI 58 + nI r).toInt ∧ (nI 58 + nI r).toInt < 66) := by
  rw [nI_add]
  exact ⟨nI_clamp (by omega), ig (by omega) (by omega)⟩
theorem RF.dd {τ : vSt} {x : Sn} {L : List Sn} {T : List Int32} (q : RF τ x L T) {r e : Nat} (hr : r < 8) (he : e < gE x.w x.h) : RF (sI (sI τ 1 (18 + e) (nI (bec r))) 1 (58 + r) (x.us r + nI 1)) (dd x r e) L T := by
  have h40 := gE_40 q.2.1.1
  have k : ∀ q' j, q' ≠ 1 → gI (sI (sI τ 1 (18 + e) (nI (bec r))) 1 (58 + r) (x.us r + nI 1)) q' j = gI τ q' j := fun q' j h1 => by rw [sI_ne _ _ (Or.inl h1), sI_ne _ _ (Or.inl h1)]
  exact ⟨CU_dd q.1 hr (by omega), okS_dd q.2.1 he, q.2.2.1.same (k 0 2 (by decide)) (fun j => k 2 j (by decide)), q.2.2.2.same (k 0 4 (by decide)) (fun j => k 3 j (by decide))⟩
theorem m_deduce {τ : vSt} {x : Sn} {L : List Sn} {T : List Int32} (q : RF τ x L T) : ∃ τ', (¬ fitA x.w x.h x.cnt x.mk ∧ f_X7_deduce τ = some (-3, τ') ∧ RF τ' x L T) ∨ (fitA x.w x.h x.cnt x.mk ∧ dN x.w x.h x.cnt x.mk 7 = none ∧ f_X7_deduce τ = some (-1, τ') ∧ RF τ' x (kp L x) T) ∨ (fitA x.w x.h x.cnt x.mk ∧ ∃ r e p, dN x.w x.h x.cnt x.mk 7 = some (r, e, p) ∧ f_X7_deduce τ = some (nI r, τ') ∧ RF τ' (dd x r e) (kp L x) T) := by
  obtain ⟨τ1, e1, s1, k1⟩ := m_fits q.mg
  have q1 := q.fl s1
  unfold f_X7_deduce
  rw [e1]
  simp only [ob]
  by_cases a : fitA x.w x.h x.cnt x.mk
  · rw [pI_t a, if_neg (by decide)]
    obtain ⟨τ2, e2, h2, f2⟩ := m_keeps q1.1 q1.2.2.1
    have q2 := q1.kp h2 f2
    rw [e2]
    simp only [ob]
    obtain ⟨τ3, s3, ⟨x3, y3⟩ | ⟨r, e, p, x3, y3, z3⟩⟩ := m_findsNext q2.mg (l := 7) (by decide)
    · rw [y3]
      simp only [ob]
      rw [if_pos trivial]
      exact ⟨τ3, Or.inr (Or.inl ⟨a, x3, rfl, q2.fb s3⟩)⟩
    · obtain ⟨hr, he, h0⟩ := dN_ok q.2.1.1 x3
      have h40 := gE_40 q.2.1.1
      have q3 := q2.fb s3
      rw [y3]
      simp only [ob]
      rw [if_neg (by decide), m_makes z3 (by omega)]
      simp only [ob]
      have h13 : gI (sI τ3 1 (18 + e) (nI (bec r))) 0 13 = nI r := by rw [sI_ne _ _ (Or.inl (by decide))]; exact z3.1
      have h58 : gI (sI τ3 1 (18 + e) (nI (bec r))) 1 (58 + r) = x.us r := by rw [sI_ne _ _ (Or.inr (by omega))]; exact CU_us q3.1 hr
      rw [h13, if_pos (g58 hr).2, if_pos (g58 hr).2, (g58 hr).1, h58]
      refine ⟨_, Or.inr (Or.inr ⟨a, r, e, p, x3, ?_, q3.dd hr he⟩)⟩
      rw [sI_ne _ _ (Or.inl (by decide)), h13]
  · rw [pI_f a, if_pos rfl]
    exact ⟨τ1, Or.inl ⟨a, rfl, q1⟩⟩
noncomputable def dA (l : Nat) : Nat → Sn → Nat → Nat × Sn
  | 0, x, a => (a, x)
  | n + 1, x, a => match dN x.w x.h x.cnt x.mk l with
    | none => (a, x)
    | some (r, e, _) => dA l n (dd x r e) (a + 1)
theorem dA_n {l n a : Nat} {x : Sn} (q : dN x.w x.h x.cnt x.mk l = none) : dA l (n + 1) x a = (a, x) := by
  show (match dN x.w x.h x.cnt x.mk l with | none => (a, x) | some (r, e, _) => dA l n (dd x r e) (a + 1)) = _
  rw [q]
theorem dA_y {l n a : Nat} {x : Sn} {r e p : Nat} (q : dN x.w x.h x.cnt x.mk l = some (r, e, p)) : dA l (n + 1) x a = dA l n (dd x r e) (a + 1) := by
  show (match dN x.w x.h x.cnt x.mk l with | none => (a, x) | some (r, e, _) => dA l n (dd x r e) (a + 1)) = _
  rw [q]
theorem m_da1 {l : Nat} (hl : l < 8) {L : List Sn} {T : List Int32} : ∀ (n m : Nat) (x : Sn) (a : Nat) (τ : vSt), RF τ x L T → opn x.w x.h x.mk < n → opn x.w x.h x.mk < m → ∃ τ', f_X7_deduceAll_29 (nI l) n (nI a) τ = some (nI (dA l m x a).1, τ') ∧ RF τ' (dA l m x a).2 L T := by
  intro n
  induction n with
  | zero => intro m x a τ _ h1; omega
  | succ n ih =>
    intro m x a τ q h1 h2
    obtain ⟨m, rfl⟩ : ∃ k, m = k + 1 := ⟨m - 1, by omega⟩
    have h40 := gE_40 q.2.1.1
    rw [f_X7_deduceAll_29.eq_2]
    obtain ⟨τ3, s3, ⟨x3, y3⟩ | ⟨r, e, p, x3, y3, z3⟩⟩ := m_findsNext q.mg hl
    · rw [y3, dA_n x3]
      simp only [ob]
      rw [if_pos trivial]
      exact ⟨τ3, rfl, q.fb s3⟩
    · obtain ⟨hr, he, h0⟩ := dN_ok q.2.1.1 x3
      have q3 := q.fb s3
      rw [y3, dA_y x3]
      simp only [ob]
      rw [if_neg (by decide), m_makes z3 (by omega)]
      simp only [ob]
      have h13 : gI (sI τ3 1 (18 + e) (nI (bec r))) 0 13 = nI r := by rw [sI_ne _ _ (Or.inl (by decide))]; exact z3.1
      have h58 : gI (sI τ3 1 (18 + e) (nI (bec r))) 1 (58 + r) = x.us r := by rw [sI_ne _ _ (Or.inr (by omega))]; exact CU_us q3.1 hr
      rw [h13, if_pos (g58 hr).2, if_pos (g58 hr).2, (g58 hr).1, h58, nI_1 a]
      have ho := opn_um he h0 (bec_3 r).2
      exact ih m (dd x r e) (a + 1) _ (q3.dd hr he) (by show opn x.w x.h (um x.mk e (bec r)) < n; omega) (by show opn x.w x.h (um x.mk e (bec r)) < m; omega)
theorem m_deduceAll {τ : vSt} {x : Sn} {L : List Sn} {T : List Int32} (q : RF τ x L T) {l : Nat} (hl : l < 8) : ∃ τ', (¬ fitA x.w x.h x.cnt x.mk ∧ f_X7_deduceAll (nI l) τ = some (-3, τ') ∧ RF τ' x L T) ∨ (fitA x.w x.h x.cnt x.mk ∧ f_X7_deduceAll (nI l) τ = some (nI (dA l 41 x 0).1, τ') ∧ RF τ' (dA l 41 x 0).2 (kp L x) T) := by
  have hin : f_X7_in (nI l) (nI 0) (nI 7) = some (nI 1) := by
    unfold f_X7_in
    rw [if_neg (by rw [nI_ltI (by omega) (by decide)]; omega), if_neg (by rw [nI_ltI (by decide) (by omega)]; omega)]
  obtain ⟨τ1, e1, s1, k1⟩ := m_fits q.mg
  have q1 := q.fl s1
  unfold f_X7_deduceAll
  rw [hin]
  simp only [ob]
  rw [if_neg (by decide), e1]
  simp only [ob]
  by_cases a : fitA x.w x.h x.cnt x.mk
  · rw [pI_t a, if_neg (by decide)]
    obtain ⟨τ2, e2, h2, f2⟩ := m_keeps q1.1 q1.2.2.1
    have q2 := q1.kp h2 f2
    rw [e2]
    simp only [ob]
    have ho := opn_le q.2.1.1 x.mk
    obtain ⟨τ3, e3, q3⟩ := m_da1 hl 600 41 x 0 τ2 q2 (by omega) (by omega)
    rw [e3]
    exact ⟨τ3, Or.inr ⟨a, rfl, q3⟩⟩
  · rw [pI_f a, if_pos rfl]
    exact ⟨τ1, Or.inl ⟨a, rfl, q1⟩⟩
