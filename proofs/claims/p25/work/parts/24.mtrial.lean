/-! THE REFERENCE'S TRIALS -/
noncomputable def opn (w h : Nat) (mk : Nat → Nat) : Nat := cnP (gE w h) (fun e => mk e = 0)
theorem opn_um {w h : Nat} {mk : Nat → Nat} {e v : Nat} (he : e < gE w h) (h0 : mk e = 0) (hv : v ≠ 0) : opn w h (um mk e v) < opn w h mk := by
  have hm : ∀ x, x < gE w h → um mk e v x = 0 → mk x = 0 := by
    intro x _ hx
    by_cases a : x = e
    · rw [a]; exact h0
    · rw [um_n a] at hx; exact hx
  have h1 := cnP_mono hm
  have h2 : ¬ cnP (gE w h) (fun x => um mk e v x = 0) = cnP (gE w h) (fun x => mk x = 0) := by
    intro q
    have := (cnP_eq hm).mp q e he h0
    rw [um_e] at this
    exact hv this
  unfold opn
  omega
theorem opn_le {w h : Nat} (hd : dim w h) (mk : Nat → Nat) : opn w h mk ≤ 40 := Nat.le_trans (cnP_le _ _) (gE_40 hd)
theorem fo_mem {mk : Nat → Nat} : ∀ {L : List Nat}, 0 < L.countP (fun e => decide (mk e = 0)) → fo mk L ∈ L ∧ mk (fo mk L) = 0
  | [], hc => absurd hc (Nat.lt_irrefl 0)
  | a :: t, hc => by
    by_cases a0 : mk a = 0
    · rw [fo_t a0]; exact ⟨List.mem_cons_self, a0⟩
    · rw [fo_f a0]
      rw [List.countP_cons_of_neg (by simp [a0])] at hc
      have := fo_mem hc
      exact ⟨List.mem_cons_of_mem _ this.1, this.2⟩
theorem nx_some {c : Nat} {x y : Nat × Nat × Nat} (e : nx c x = some y) : c ≠ 99 ∧ x = y := by
  unfold nx at e
  split at e
  · exact absurd e (by simp)
  · rename_i a; exact ⟨a, Option.some.inj e⟩
theorem lst_sat {N : Nat} {P : Nat → Prop} (hn : lst N P ≠ 99) : lst N P < N ∧ P (lst N P) := by
  rcases lst_or N P with ⟨j, a, b, _, d⟩ | ⟨_, d⟩
  · rw [d]; exact ⟨a, b⟩
  · exact absurd d hn
theorem dedK_pos {w h r k : Nat} {mk : Nat → Nat} (hk : dedK w h mk r k) : 0 < nTo w h mk k 0 := by
  unfold dedK at hk
  split at hk <;> omega
theorem dR_ok {w h : Nat} {cnt : Nat → Int32} {mk : Nat → Nat} (hd : dim w h) {r r' e p : Nat} (hr : r < 6) (x : dR w h cnt mk r = some (r', e, p)) : r' = r ∧ e < gE w h ∧ mk e = 0 := by
  unfold dR at x
  by_cases a : r < 2
  · rw [if_pos a] at x
    obtain ⟨n, y⟩ := nx_some x
    obtain ⟨hl, _, ho⟩ := lst_sat n
    obtain ⟨rfl, y2⟩ := Prod.mk.inj y
    obtain ⟨y3, _⟩ := Prod.mk.inj y2
    have hf := fo_mem ho
    rw [y3] at hf
    refine ⟨rfl, ?_, hf.2⟩
    have := hf.1
    unfold gArL at this
    simp only [List.mem_cons, List.not_mem_nil, or_false] at this
    rcases this with q | q | q | q <;> rw [q] <;> exact gAr_lt hd hl (by decide)
  · rw [if_neg a] at x
    by_cases b : r < 5
    · rw [if_pos b] at x
      obtain ⟨n, y⟩ := nx_some x
      obtain ⟨hl, hk⟩ := lst_sat n
      obtain ⟨rfl, y2⟩ := Prod.mk.inj y
      obtain ⟨y3, _⟩ := Prod.mk.inj y2
      have ho : 0 < nTo w h mk (lst (gK w h) (dedK w h mk r)) 0 := by
        exact dedK_pos hk
      have hf := fo_mem ho
      rw [y3] at hf
      exact ⟨rfl, gToL_lt hd hl hf.1, hf.2⟩
    · rw [if_neg b] at x
      obtain ⟨n, y⟩ := nx_some x
      obtain ⟨hl, hk⟩ := lst_sat n
      obtain ⟨y1, y2⟩ := Prod.mk.inj y
      obtain ⟨y3, _⟩ := Prod.mk.inj y2
      rw [← y3]
      exact ⟨by omega, hl, hk.1⟩
theorem dF_ok {w h : Nat} {cnt : Nat → Int32} {mk : Nat → Nat} (hd : dim w h) {r e p : Nat} : ∀ {m i : Nat}, i + m ≤ 6 → dF w h cnt mk i m = some (r, e, p) → r < i + m ∧ e < gE w h ∧ mk e = 0
  | 0, i, _, x => by exact absurd x (by simp [dF])
  | m + 1, i, hm, x => by
    cases q : dR w h cnt mk i with
    | none =>
      have : dF w h cnt mk i (m + 1) = dF w h cnt mk (i + 1) m := by show (match dR w h cnt mk i with | some x => some x | none => dF w h cnt mk (i + 1) m) = _; rw [q]
      rw [this] at x
      have := dF_ok hd (m := m) (i := i + 1) (by omega) x
      exact ⟨by omega, this.2⟩
    | some y =>
      have : dF w h cnt mk i (m + 1) = some y := by show (match dR w h cnt mk i with | some x => some x | none => dF w h cnt mk (i + 1) m) = _; rw [q]
      rw [this] at x
      rw [Option.some.inj x] at q
      have := dR_ok hd (by omega) q
      exact ⟨by omega, this.2⟩
theorem dP_ok {w h : Nat} {cnt : Nat → Int32} {mk : Nat → Nat} (hd : dim w h) {N r e p : Nat} (hN : N ≤ 6) (x : dP w h cnt mk N = some (r, e, p)) : r < N ∧ e < gE w h ∧ mk e = 0 := by
  by_cases a : fitA w h cnt mk ∧ ¬ hasR w h mk
  · rw [dP_y a] at x
    have := dF_ok hd (m := N) (i := 0) (by omega) x
    exact ⟨by omega, this.2⟩
  · rw [dP_n a] at x; exact absurd x (by simp)
noncomputable def clo (w h : Nat) (cnt : Nat → Int32) : Nat → (Nat → Nat) → (Nat → Nat)
  | 0, f => f
  | n + 1, f => match dP w h cnt f 6 with
    | none => f
    | some (r, e, _) => clo w h cnt n (um f e (bec r))
theorem clo_n {w h : Nat} {cnt : Nat → Int32} {n : Nat} {mk : Nat → Nat} (x : dP w h cnt mk 6 = none) : clo w h cnt (n + 1) mk = mk := by
  show (match dP w h cnt mk 6 with | none => mk | some (r, e, _) => clo w h cnt n (um mk e (bec r))) = _
  rw [x]
theorem clo_y {w h : Nat} {cnt : Nat → Int32} {n : Nat} {mk : Nat → Nat} {r e p : Nat} (x : dP w h cnt mk 6 = some (r, e, p)) : clo w h cnt (n + 1) mk = clo w h cnt n (um mk e (bec r)) := by
  show (match dP w h cnt mk 6 with | none => mk | some (r, e, _) => clo w h cnt n (um mk e (bec r))) = _
  rw [x]
theorem bec_3 (r : Nat) : bec r < 3 ∧ bec r ≠ 0 := by
  unfold bec
  split <;> decide
theorem m_makes {τ : vSt} {r e p : Nat} (hq : fq τ r e p) (he : e < 40) : f_X7_makes τ = some (sI τ 1 (18 + e) (nI (bec r))) := by
  unfold f_X7_makes
  rw [hq.2.1, hq.2.2.1, if_pos (g18 he).2, (g18 he).1]
theorem m_clo {w h : Nat} {cnt : Nat → Int32} (F : Nat → vSt → Option vSt) (hF : ∀ n σ, F (n + 1) σ = (f_X7_findsPlain (nI 5) σ).bind fun (v, σ1) => if v = nI 0 then some σ1 else (f_X7_makes σ1).bind fun σ2 => F n σ2) : ∀ (n m : Nat) (mk : Nat → Nat) (τ τ0 : vSt), MG τ w h cnt mk → opn w h mk < n → opn w h mk < m → Fm WF τ0 τ → ∃ τ', F n τ = some τ' ∧ MG τ' w h cnt (clo w h cnt m mk) ∧ Fm WF τ0 τ' := by
  intro n
  induction n with
  | zero => intro m mk τ τ0 hg h1; omega
  | succ n ih =>
    intro m mk τ τ0 hg h1 h2 hs
    obtain ⟨m, rfl⟩ : ∃ k, m = k + 1 := ⟨m - 1, by omega⟩
    have hd := hg.1.2.2
    have h40 := gE_40 hd
    rw [hF]
    obtain ⟨τ1, s, ⟨x, y⟩ | ⟨r, e, p, x, y, z⟩⟩ := m_findsPlain hg (l := 5) (by decide)
    · rw [y]
      simp only [ob]
      rw [if_pos trivial, clo_n x]
      exact ⟨τ1, rfl, hg.same s.1, hs.tr (s.fm (fun _ _ q => q))⟩
    · obtain ⟨hr, he, h0⟩ := dP_ok hd (by decide) x
      rw [y]
      simp only [ob]
      rw [if_neg (by decide), m_makes z (by omega)]
      simp only [ob]
      rw [clo_y x]
      have ho := opn_um he h0 (bec_3 r).2
      exact ih m (um mk e (bec r)) _ τ0 ((hg.same s.1).um (bec_3 r).1) (by omega) (by omega) ((hs.tr (s.fm (fun _ _ q => q))).wm (by omega))
def fl (w h : Nat) (cnt : Nat → Int32) (mk : Nat → Nat) (e v : Nat) : Prop := ¬ fitA w h cnt (clo w h cnt 41 (um mk e v))
def WB (q j : Nat) : Prop := WF q j ∨ q = 7
theorem WF1 {q j : Nat} (hw : WF q j) : q = 0 ∨ (4 ≤ q ∧ q ≤ 6) := by
  rcases hw with ((a | a | a | a) | a) | a <;> omega
theorem m_fails {τ : vSt} {w h : Nat} {cnt : Nat → Int32} {mk : Nat → Nat} (hg : MG τ w h cnt mk) {e v : Nat} (he : e < gE w h) (hv : v < 3) : ∃ τ', f_X7_fails (nI e) (nI v) τ = some (pI (fl w h cnt mk e v), τ') ∧ Fr WB τ τ' := by
  have hd := hg.1.2.2
  have h40 := gE_40 hd
  obtain ⟨τ1, e1, c1⟩ := m_save7 τ
  have s1 : Fm WB τ τ1 := ⟨fun j _ => c1.2.1 1 j (fun q => absurd q.1 (by decide)), fun q j _ hw => c1.2.1 q j (fun a => hw (Or.inr a.1)), c1.2.2⟩
  have hg1 : MG τ1 w h cnt mk := hg.same (fun j => c1.2.1 1 j (fun q => absurd q.1 (by decide)))
  unfold f_X7_fails
  rw [e1]
  simp only [ob]
  rw [if_pos (g18 (by omega)).2, (g18 (by omega)).1]
  obtain ⟨τ2, e2, hg2, s2⟩ := m_clo (w := w) (h := h) (cnt := cnt) f_X7_fails_39 (fun n σ => f_X7_fails_39.eq_2 σ n) 600 41 (um mk e v) (sI τ1 1 (18 + e) (nI v)) _ (hg1.um hv) (by have := opn_le hd (um mk e v); omega) (by have := opn_le hd (um mk e v); omega) Fm.rf
  rw [e2]
  simp only [ob]
  obtain ⟨τ3, e3, s3, _⟩ := m_fits hg2
  rw [e3]
  simp only [ob]
  have hx : ((if pI (fitA w h cnt (clo w h cnt 41 (um mk e v))) = nI 0 then some (nI 1) else some (nI 0)) : Option Int32) = some (pI (fl w h cnt mk e v)) := by
    unfold fl
    by_cases a : fitA w h cnt (clo w h cnt 41 (um mk e v))
    · rw [pI_t a, if_neg (by decide), pI_f (fun q => q a)]
    · rw [pI_f a, if_pos rfl, pI_t a]
  rw [hx]
  simp only [ob]
  obtain ⟨τ4, e4, c4⟩ := m_back7 τ3
  rw [e4]
  simp only [ob]
  refine ⟨τ4, rfl, ?_⟩
  have s13 : Fm WB τ τ3 := ((s1.wm (e := e) (v := nI v) (by omega)).tr (s2.mono (fun _ _ q => Or.inl q))).tr (s3.fm (fun _ _ q => Or.inl (Or.inl q)))
  have s4 : Fm WB τ3 τ4 := ⟨fun j hj => c4.2.1 1 j (by omega), fun q j hq _ => c4.2.1 q j (fun a => hq a.1), c4.2.2⟩
  refine (s13.tr s4).fr (fun j hj => ?_)
  rw [c4.1 j (Nat.zero_le _) hj]
  have h7 : ∀ k, gI τ3 7 (0 + k) = gI τ1 7 (0 + k) := by
    intro k
    rw [s3.2.1 7 _ (fun q => by have := WF1 (Or.inl q); omega), s2.2.1 7 _ (by decide) (fun q => by have := WF1 q; omega), sI_ne _ _ (by simp)]
  rw [h7, c1.1 j (Nat.zero_le _) hj]
