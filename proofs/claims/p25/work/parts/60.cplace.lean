/-! THE CLASS: fits; the deductions at cells and corners -/
theorem SY.s1 {σ : vSt} {b w h : Nat} {cnt : Nat → Int32} {mk : Nat → Nat} (g : GD σ w h cnt) (s : SY σ b w h cnt mk) : S1 σ b w h cnt mk := ⟨g, s.1, s.2.1, s.2.2.1⟩
theorem badR8 {σ : vSt} {b w h : Nat} {cnt : Nat → Int32} {mk : Nat → Nat} (r : RG σ b w h cnt mk) : gL σ b 8 = 0 ↔ lst (gE w h) (badR w h cnt mk) = 99 := by
  constructor
  · intro z
    apply Classical.byContradiction
    intro hl
    obtain ⟨h1, h2⟩ := lst_sat hl
    have := (r.1 _).mpr ⟨h1, hl, h2.1.1, CnI.rf⟩
    rw [z, bt_0] at this; cases this
  · intro z
    refine bt_eq0.mpr (fun e => ?_)
    cases q : bt (gL σ b 8) e with
    | false => rfl
    | true => exact absurd z ((r.1 e).mp q).2.1
theorem bi_none {x : Int32} {N : Nat} {P : Nat → Prop} (hx : ∀ i, bi x i = true ↔ i < N ∧ P i) : x = nI 0 ↔ ∀ c, c < N → ¬ P c := by
  rw [bi_eq0]
  constructor
  · intro z c hc q
    have := z c
    rw [(hx c).mpr ⟨hc, q⟩] at this; cases this
  · intro z c
    cases q : bi x c with
    | false => rfl
    | true => exact absurd ((hx c).mp q).2 (z c ((hx c).mp q).1)
theorem k_fits {σ : vSt} {b w h : Nat} {cnt : Nat → Int32} {mk : Nat → Nat} (hd : dim w h) (s : SY σ b w h cnt mk) : f_X0_fits b σ = some (pI (fitA w h cnt mk)) := by
  have h40 := gE_40 hd
  have e4 := bi_none (fun c => (s.2.1 c).1)
  have e6 := bi_none (fun k => (s.2.2.1 k).1)
  have e8 := badR8 s.2.2.2
  rw [lst_99 (by omega)] at e8
  unfold f_X0_fits
  by_cases a : gI σ b 4 = nI 0
  · rw [if_pos a]
    by_cases c : gI σ b 6 = nI 0
    · rw [if_pos c]
      by_cases d : gL σ b 8 = 0
      · rw [if_pos ((lg0 _).mpr d), pI_t ⟨e4.mp a, e6.mp c, e8.mp d⟩]
      · rw [if_neg (by rw [lg0]; exact d), pI_f (fun q => d (e8.mpr q.2.2))]
    · rw [if_neg c, pI_f (fun q => c (e6.mpr q.2.1))]
  · rw [if_neg a, pI_f (fun q => a (e4.mpr q.1))]
theorem good_has {w h : Nat} {cnt : Nat → Int32} {mk : Nat → Nat} (f : fitA w h cnt mk) : gdR w h cnt mk ↔ hasR w h mk := ⟨fun ⟨e, a, r, _⟩ => ⟨e, a, r⟩, fun ⟨e, a, r⟩ => ⟨e, a, r, f.2.2 e a⟩⟩
def fnC (b : Nat) (σ : vSt) (r e p : Nat) : vSt := sI (sI (sI σ b 10 (nI r)) b 11 (nI e)) b 12 (tI p)
theorem pw_dec : dimAll (fun w h => (allLt (gC w h) fun c => decide ((gArL w h c).Pairwise (fun a b => a < b))) && (allLt (gK w h) fun k => decide ((gToL w h k).Pairwise (fun a b => a < b)))) = true := by decide +kernel
theorem gArL_pw {w h c : Nat} (hd : dim w h) (hc : c < gC w h) : (gArL w h c).Pairwise (fun a b => a < b) := of_decide_eq_true (allLt_of (and_l (dimAll_of pw_dec hd)) hc)
theorem gToL_pw {w h k : Nat} (hd : dim w h) (hk : k < gK w h) : (gToL w h k).Pairwise (fun a b => a < b) := of_decide_eq_true (allLt_of (and_r (dimAll_of pw_dec hd)) hk)
theorem fo_min {mk : Nat → Nat} : ∀ {L : List Nat}, L.Pairwise (fun a b => a < b) → ∀ x, x ∈ L → mk x = 0 → fo mk L ≤ x
  | [], _, x, hx, _ => absurd hx List.not_mem_nil
  | a :: t, hp, x, hx, h0 => by
    obtain ⟨p1, p2⟩ := List.pairwise_cons.mp hp
    by_cases ha : mk a = 0
    · rw [fo_t ha]
      rcases List.mem_cons.mp hx with q | q
      · omega
      · exact Nat.le_of_lt (p1 x q)
    · rw [fo_f ha]
      rcases List.mem_cons.mp hx with q | q
      · rw [q] at h0; exact absurd h0 ha
      · exact fo_min p2 x q h0
theorem k_fo {x y : Int64} {L : List Nat} {E : Nat} {mk : Nat → Nat} (hE : E ≤ 40) (hp : L.Pairwise (fun a b => a < b)) (hl : ∀ e, e ∈ L → e < E) (hx : ∀ e, bt x e = decide (e ∈ L)) (hy : ∀ e, bt y e = decide (e < E ∧ mk e = 0)) (ho : 0 < L.countP (fun e => decide (mk e = 0))) : f_X6_leastOf (x &&& y) = some (nI (fo mk L)) := by
  obtain ⟨f1, f2⟩ := fo_mem ho
  have hb : ∀ i, bt (x &&& y) i = true ↔ i < E ∧ (i ∈ L ∧ mk i = 0) := fun i => by
    rw [bt_and, hx, hy, Bool.and_eq_true, decide_eq_true_iff, decide_eq_true_iff]
    exact ⟨fun q => ⟨q.2.1, q.1, q.2.2⟩, fun q => ⟨q.2.1, q.1, q.2.2⟩⟩
  rw [k_leastL (by omega) hb, lst_is (hl _ f1) ⟨f1, f2⟩ (fun l hl2 q => by have := fo_min hp l q.1 q.2; omega), tI_n (by have := hl _ f1; omega)]
theorem k_place18 {σ : vSt} {b w h : Nat} {cnt : Nat → Int32} {mk : Nat → Nat} (g : GD σ w h cnt) (s : SY σ b w h cnt mk) {l : Nat} (hl : l < 8) : ∀ (n i : Nat), i ≤ min (l + 1) 5 → min (l + 1) 5 < i + n → (dF w h cnt mk i (min (l + 1) 5 - i) = none ∧ f_X0_findAtPlace_18 b (nI l) σ n (nI i) = some (.inr ())) ∨ ∃ r e p, dF w h cnt mk i (min (l + 1) 5 - i) = some (r, e, p) ∧ f_X0_findAtPlace_18 b (nI l) σ n (nI i) = some (.inl (nI 1, fnC b σ r e p)) := by
  have hd := g.1.1
  have h16 := gC_16 hd
  have h25 := gK_25 hd
  have h40 := gE_40 hd
  intro n
  induction n with
  | zero => intro i h1 h2; omega
  | succ n ih =>
    intro i h1 h2
    rw [f_X0_findAtPlace_18.eq_2]
    by_cases hi : i = min (l + 1) 5
    · left
      rw [hi, Nat.sub_self]
      refine ⟨rfl, ?_⟩
      by_cases q : l < min (l + 1) 5
      · rw [if_pos ((nI_ltI (by omega) (by omega)).mpr q)]
      · rw [if_neg (by rw [nI_ltI (by omega) (by omega)]; exact q), if_pos ((nI_leI (by decide) (by omega)).mpr (by omega))]
    · have hi5 : i < min (l + 1) 5 := by omega
      rw [if_neg (by rw [nI_ltI (by omega) (by omega)]; omega), if_neg (by rw [nI_leI (by decide) (by omega)]; omega), if_pos (ig (by omega) (by omega)), nI_clamp (by omega), nI_1 i]
      by_cases hc : i < 2
      · have hbits : ∀ c, bi (gI σ (b + 1) i) c = true ↔ c < gC w h ∧ dedC w h cnt mk i c := by
          rcases (show i = 0 ∨ i = 1 by omega) with rfl | rfl
          · exact fun c => (s.2.1 c).2.2.1
          · exact fun c => (s.2.1 c).2.2.2
        rw [k_leastI (by omega) hbits]
        simp only [ob]
        rw [if_neg (by rw [nI_leI (by decide) (by omega)]; omega)]
        simp only [ob]
        rw [if_neg (by decide), if_neg (by decide)]
        have hdR : dR w h cnt mk i = nx (lst (gC w h) (dedC w h cnt mk i)) (i, fo mk (gArL w h (lst (gC w h) (dedC w h cnt mk i))), lst (gC w h) (dedC w h cnt mk i)) := by unfold dR; exact if_pos hc
        by_cases h99 : lst (gC w h) (dedC w h cnt mk i) = 99
        · rw [h99, tI_99, k_hasCellN g.1]
          simp only [ob]
          rw [if_pos trivial, dF_n hi5 (by rw [hdR]; exact if_pos h99)]
          exact ih (i + 1) (by omega) (by omega)
        · obtain ⟨y1, y2⟩ := lst_sat h99
          have hsome : dR w h cnt mk i = some (i, fo mk (gArL w h (lst (gC w h) (dedC w h cnt mk i))), lst (gC w h) (dedC w h cnt mk i)) := by rw [hdR]; exact if_neg h99
          rw [dF_y hi5 hsome]
          generalize lst (gC w h) (dedC w h cnt mk i) = c at y1 y2 h99
          rw [tI_n h99, k_hasCell g.1 y1]
          simp only [ob]
          rw [if_neg (by decide), if_pos (ig (by omega) (by omega))]
          simp only [ob]
          rw [nI_clamp (by omega), k_fo h40 (gArL_pw hd y1) (fun e he => gArL_lt hd y1 he) (g.2.1.1 c y1) s.1.2 y2.2]
          simp only [ob]
          refine Or.inr ⟨_, _, _, rfl, ?_⟩
          unfold f_X0_found fnC
          simp only [ob]
          rw [tI_n h99]
      · have hbits : ∀ c, bi (gI σ (b + 1) i) c = true ↔ c < gK w h ∧ dedK w h mk i c := by
          rcases (show i = 2 ∨ i = 3 ∨ i = 4 by omega) with rfl | rfl | rfl
          · exact fun c => (s.2.2.1 c).2.2.1
          · exact fun c => (s.2.2.1 c).2.2.2.1
          · exact fun c => (s.2.2.1 c).2.2.2.2
        rw [k_leastI (by omega) hbits]
        simp only [ob]
        rw [if_pos ((nI_leI (by decide) (by omega)).mpr (by omega))]
        simp only [ob]
        rw [if_pos trivial, if_pos trivial]
        have hdR : dR w h cnt mk i = nx (lst (gK w h) (dedK w h mk i)) (i, fo mk (gToL w h (lst (gK w h) (dedK w h mk i))), lst (gK w h) (dedK w h mk i)) := by
          unfold dR; exact (if_neg hc).trans (if_pos (by omega))
        by_cases h99 : lst (gK w h) (dedK w h mk i) = 99
        · rw [h99, tI_99, k_hasCornerN g.1]
          simp only [ob]
          rw [if_pos trivial, dF_n hi5 (by rw [hdR]; exact if_pos h99)]
          exact ih (i + 1) (by omega) (by omega)
        · obtain ⟨y1, y2⟩ := lst_sat h99
          have hsome : dR w h cnt mk i = some (i, fo mk (gToL w h (lst (gK w h) (dedK w h mk i))), lst (gK w h) (dedK w h mk i)) := by rw [hdR]; exact if_neg h99
          rw [dF_y hi5 hsome]
          generalize lst (gK w h) (dedK w h mk i) = c at y1 y2 h99
          rw [tI_n h99, k_hasCorner g.1 y1]
          simp only [ob]
          rw [if_neg (by decide), if_pos (ig (by omega) (by omega))]
          simp only [ob]
          rw [nI_clamp (by omega), k_fo h40 (gToL_pw hd y1) (fun e he => gToL_lt hd y1 he) (g.2.1.2 c y1) s.1.2 (dedK_pos y2)]
          simp only [ob]
          refine Or.inr ⟨_, _, _, rfl, ?_⟩
          unfold f_X0_found fnC
          simp only [ob]
          rw [tI_n h99]
theorem k_findAtPlace {σ : vSt} {b w h : Nat} {cnt : Nat → Int32} {mk : Nat → Nat} (g : GD σ w h cnt) (s : SY σ b w h cnt mk) {l : Nat} (hl : l < 8) : (dP w h cnt mk (min (l + 1) 5) = none ∧ f_X0_findAtPlace b (nI l) σ = some (nI 0, σ)) ∨ ∃ r e p, dP w h cnt mk (min (l + 1) 5) = some (r, e, p) ∧ f_X0_findAtPlace b (nI l) σ = some (nI 1, fnC b σ r e p) := by
  have hd := g.1.1
  unfold f_X0_findAtPlace
  rw [k_fits hd s]
  simp only [ob]
  by_cases hf : fitA w h cnt mk
  · rw [if_neg (by rw [pI_0]; exact fun z => z hf), s.2.2.2.2]
    by_cases hr : hasR w h mk
    · rw [if_neg (by rw [pI_0]; exact fun z => z ((good_has hf).mpr hr)), dP_n (fun q => q.2 hr)]
      exact Or.inl ⟨rfl, rfl⟩
    · rw [if_pos (pI_0.mpr (fun z => hr ((good_has hf).mp z))), dP_y ⟨hf, hr⟩]
      rcases k_place18 g s hl 600 0 (Nat.zero_le _) (by omega) with ⟨a, c⟩ | ⟨r, e, p, a, c⟩
      · rw [c]; exact Or.inl ⟨a, rfl⟩
      · rw [c]; exact Or.inr ⟨r, e, p, a, rfl⟩
  · rw [if_pos (pI_0.mpr hf), dP_n (fun q => hf q.1)]
    exact Or.inl ⟨rfl, rfl⟩
