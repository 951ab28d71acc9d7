/-! THE CLASS'S RINGS, and its board in step with the marks -/
def gdR (w h : Nat) (cnt : Nat → Int32) (mk : Nat → Nat) : Prop := ∃ e, e < gE w h ∧ rgE w h mk e ∧ ¬ badR w h cnt mk e
def RG (σ : vSt) (b w h : Nat) (cnt : Nat → Int32) (mk : Nat → Nat) : Prop := (∀ e, bt (gL σ b 8) e = true ↔ e < gE w h ∧ lst (gE w h) (badR w h cnt mk) ≠ 99 ∧ wayP w h mk (lst (gE w h) (badR w h cnt mk)) e) ∧ gI σ b 9 = pI (gdR w h cnt mk)
def S1 (σ : vSt) (b w h : Nat) (cnt : Nat → Int32) (mk : Nat → Nat) : Prop := GD σ w h cnt ∧ MB σ b w h mk ∧ (∀ c, CK σ b w h cnt mk c) ∧ ∀ k, KK σ b w h mk k
def FR (b : Nat) (σ σ' : vSt) : Prop := (∀ q j, ¬ (q = b ∧ j = 9) → gI σ' q j = gI σ q j) ∧ ∀ q j, ¬ (q = b ∧ j = 8) → gL σ' q j = gL σ q j
theorem FR.rf {b : Nat} {σ : vSt} : FR b σ σ := ⟨fun _ _ _ => rfl, fun _ _ _ => rfl⟩
theorem FR.tr {b : Nat} {x y z : vSt} (f : FR b x y) (g : FR b y z) : FR b x z := ⟨fun q j h => (g.1 q j h).trans (f.1 q j h), fun q j h => (g.2 q j h).trans (f.2 q j h)⟩
theorem FR.wI {b : Nat} {σ σ' : vSt} (f : FR b σ σ') {v : Int32} : FR b σ (sI σ' b 9 v) := ⟨fun q j h => by rw [sI_if, if_neg h]; exact f.1 q j h, f.2⟩
theorem FR.wL {b : Nat} {σ σ' : vSt} (f : FR b σ σ') {v : Int64} : FR b σ (sL σ' b 8 v) := ⟨f.1, fun q j h => by rw [sL_if, if_neg h]; exact f.2 q j h⟩
theorem FR.fb {b : Nat} {σ σ' : vSt} (f : FR b σ σ') : FB b 10 σ σ' := ⟨fun q j h1 h2 => f.1 q j (fun z => h1 z.1), fun q j h1 => f.2 q j (fun z => h1 z.1), fun j h => f.1 b j (by omega)⟩
theorem MB_same {σ σ' : vSt} {b w h : Nat} {mk : Nat → Nat} (m : MB σ b w h mk) (h2 : gL σ' b 2 = gL σ b 2) (h3 : gL σ' b 3 = gL σ b 3) : MB σ' b w h mk := ⟨fun e => by rw [h2]; exact m.1 e, fun e => by rw [h3]; exact m.2 e⟩
theorem CK_same {σ σ' : vSt} {b w h : Nat} {cnt : Nat → Int32} {mk : Nat → Nat} {c : Nat} (m : CK σ b w h cnt mk c) (h4 : gI σ' b 4 = gI σ b 4) (h5 : gI σ' b 5 = gI σ b 5) (h6 : gI σ' (b + 1) 0 = gI σ (b + 1) 0) (h7 : gI σ' (b + 1) 1 = gI σ (b + 1) 1) : CK σ' b w h cnt mk c := by
  unfold CK at m ⊢
  rw [h4, h5, h6, h7]; exact m
theorem KK_same {σ σ' : vSt} {b w h : Nat} {mk : Nat → Nat} {c : Nat} (m : KK σ b w h mk c) (h4 : gI σ' b 6 = gI σ b 6) (h5 : gI σ' b 7 = gI σ b 7) (h6 : gI σ' (b + 1) 2 = gI σ (b + 1) 2) (h7 : gI σ' (b + 1) 3 = gI σ (b + 1) 3) (h8 : gI σ' (b + 1) 4 = gI σ (b + 1) 4) : KK σ' b w h mk c := by
  unfold KK at m ⊢
  rw [h4, h5, h6, h7, h8]; exact m
theorem S1.fr {σ σ' : vSt} {b w h : Nat} {cnt : Nat → Int32} {mk : Nat → Nat} (s : S1 σ b w h cnt mk) (hb : 6 ≤ b) (f : FR b σ σ') : S1 σ' b w h cnt mk := by
  refine ⟨s.1.fb hb f.fb, MB_same s.2.1 (f.2 _ _ (by omega)) (f.2 _ _ (by omega)), fun c => CK_same (s.2.2.1 c) ?_ ?_ ?_ ?_, fun k => KK_same (s.2.2.2 k) ?_ ?_ ?_ ?_ ?_⟩ <;> exact f.1 _ _ (by omega)
theorem met_iff {σ : vSt} {b w h : Nat} {cnt : Nat → Int32} {mk : Nat → Nat} (s : S1 σ b w h cnt mk) : gI σ b 5 = nI 0 ↔ met w h cnt mk := by
  rw [bi_eq0]
  constructor
  · intro z c hc
    by_cases a : cnt c = -1
    · exact Or.inl a
    · right
      apply Classical.byContradiction
      intro q
      have := (s.2.2.1 c).2.1.mpr ⟨hc, a, q⟩
      rw [z c] at this; cases this
  · intro z c
    cases q : bi (gI σ b 5) c with
    | false => rfl
    | true =>
      have := (s.2.2.1 c).2.1.mp q
      rcases z c this.1 with a | a
      · exact absurd a this.2.1
      · exact absurd a this.2.2
theorem full_iff {σ : vSt} {b w h : Nat} {cnt : Nat → Int32} {mk : Nat → Nat} (s : S1 σ b w h cnt mk) {e0 : Nat} {v : Int64} (hv : ∀ e, bt v e = true ↔ e < gE w h ∧ wayP w h mk e0 e) : v = gL σ b 2 ↔ fullK w h mk (gEn w h e0 0) := by
  have hD : ∀ e, bt (gL σ b 2) e = true ↔ e < gE w h ∧ mk e = 1 := fun e => by rw [s.2.1.1, decide_eq_true_iff]
  constructor
  · intro z e he hm
    have := (hD e).mpr ⟨he, hm⟩
    rw [← z] at this
    exact ((hv e).mp this).2.2
  · intro z
    apply bt_ext
    intro e _
    rw [Bool.eq_iff_iff, hv, hD]
    exact ⟨fun q => ⟨q.1, q.2.1⟩, fun q => ⟨q.1, q.2, z e q.1 q.2⟩⟩
theorem k_lookAtWay {σ : vSt} {b w h : Nat} {cnt : Nat → Int32} {mk : Nat → Nat} (s : S1 σ b w h cnt mk) {e0 : Nat} {v : Int64} (h0 : e0 < gE w h) (hm : mk e0 = 1) (hv : ∀ e, bt v e = true ↔ e < gE w h ∧ wayP w h mk e0 e) : (¬ rgE w h mk e0 ∧ f_X0_lookAtWay b v σ = some σ) ∨ (rgE w h mk e0 ∧ ¬ badR w h cnt mk e0 ∧ f_X0_lookAtWay b v σ = some (sI σ b 9 (nI 1))) ∨ (badR w h cnt mk e0 ∧ gL σ b 8 = 0 ∧ f_X0_lookAtWay b v σ = some (sL σ b 8 v)) ∨ (badR w h cnt mk e0 ∧ ¬ gL σ b 8 = 0 ∧ f_X0_lookAtWay b v σ = some σ) := by
  unfold f_X0_lookAtWay
  rw [k_isRing s.1 s.2.2.2 h0 hm hv]
  simp only [ob]
  by_cases hr : rgK w h mk (gEn w h e0 0)
  · rw [if_neg (by rw [pI_0]; exact fun z => z hr)]
    have hrE : rgE w h mk e0 := ⟨hm, hr⟩
    have bad : (¬ met w h cnt mk ∨ ¬ fullK w h mk (gEn w h e0 0)) → (badR w h cnt mk e0 ∧ gL σ b 8 = 0 ∧ (if (lg_cmp (gL σ b 8) (0 : Int64)) = nI 0 then some (sL σ b 8 v) else some σ) = some (sL σ b 8 v)) ∨ (badR w h cnt mk e0 ∧ ¬ gL σ b 8 = 0 ∧ (if (lg_cmp (gL σ b 8) (0 : Int64)) = nI 0 then some (sL σ b 8 v) else some σ) = some σ) := by
      intro q
      by_cases z : gL σ b 8 = 0
      · exact Or.inl ⟨⟨hrE, q⟩, z, if_pos ((lg0 _).mpr z)⟩
      · exact Or.inr ⟨⟨hrE, q⟩, z, if_neg (by rw [lg0]; exact z)⟩
    by_cases hf : v = gL σ b 2
    · rw [if_pos ((lgE _ _).mpr hf)]
      by_cases hme : met w h cnt mk
      · rw [if_pos ((met_iff s).mpr hme)]
        refine Or.inr (Or.inl ⟨hrE, fun q => ?_, rfl⟩)
        rcases q.2 with z | z
        · exact z hme
        · exact z ((full_iff s hv).mp hf)
      · rw [if_neg (by rw [met_iff s]; exact hme)]
        exact Or.inr (Or.inr (bad (Or.inl hme)))
    · rw [if_neg (by rw [lgE]; exact hf)]
      exact Or.inr (Or.inr (bad (Or.inr (fun z => hf ((full_iff s hv).mpr z)))))
  · rw [if_pos (pI_0.mpr hr)]
    exact Or.inl ⟨fun z => hr z.2, rfl⟩
theorem rgK_cn {w h : Nat} {mk : Nat → Nat} {a c : Nat} (x : Cn w h mk a c) (r : rgK w h mk a) : rgK w h mk c := by
  obtain ⟨⟨e, h1, h2, h3⟩, h4⟩ := r
  exact ⟨⟨e, h1, h2, h3.tr x⟩, fun k' hk hc => h4 k' hk (hc.tr x.sy)⟩
theorem rgE_way {w h : Nat} {mk : Nat → Nat} {e f : Nat} (x : wayP w h mk e f) (r : rgE w h mk e) : rgE w h mk f := ⟨x.1, rgK_cn x.2.sy r.2⟩
theorem badR_way {w h : Nat} {cnt : Nat → Int32} {mk : Nat → Nat} {e f : Nat} (x : wayP w h mk e f) (r : badR w h cnt mk e) : badR w h cnt mk f := by
  refine ⟨rgE_way x r.1, ?_⟩
  rcases r.2 with z | z
  · exact Or.inl z
  · exact Or.inr (fun q => z (fun d h1 h2 => (q d h1 h2).tr x.2))
/-- the loop over ways: what has been looked at -/
def RI (σ : vSt) (b w h : Nat) (cnt : Nat → Int32) (mk : Nat → Nat) (rest : Int64) : Prop := (((∀ e, e < gE w h → bt rest e = false → ¬ badR w h cnt mk e) ∧ gL σ b 8 = 0) ∨ (lst (gE w h) (badR w h cnt mk) ≠ 99 ∧ ¬ gL σ b 8 = 0 ∧ ∀ e, bt (gL σ b 8) e = true ↔ e < gE w h ∧ wayP w h mk (lst (gE w h) (badR w h cnt mk)) e)) ∧ gI σ b 9 = pI (∃ e, e < gE w h ∧ bt rest e = false ∧ rgE w h mk e ∧ ¬ badR w h cnt mk e)
theorem k_rings17 {b w h : Nat} {cnt : Nat → Int32} {mk : Nat → Nat} (hb : 6 ≤ b) : ∀ (n i : Nat) (rest : Int64) (σ : vSt), i ≤ 40 → 40 < i + n → bN rest + i ≤ 40 → S1 σ b w h cnt mk → (∀ e, bt rest e = true → e < gE w h ∧ mk e = 1) → (∀ e f, bt rest e = true → f < gE w h → wayP w h mk e f → bt rest f = true) → RI σ b w h cnt mk rest → ∃ σ', f_X0_lookAtRings_17 b n rest (nI i) σ = some σ' ∧ FR b σ σ' ∧ RI σ' b w h cnt mk 0 := by
  intro n
  induction n with
  | zero => intro i rest σ h1 h2; omega
  | succ n ih =>
    intro i rest σ h1 h2 hN s hs hc ri
    have hd := s.1.1.1
    have h40 := gE_40 hd
    rw [f_X0_lookAtRings_17.eq_2]
    by_cases hi : 40 ≤ i
    · rw [if_pos ((nI_leI (by decide) (by omega)).mpr hi)]
      have hz : rest = 0 := bt_eq0.mpr (fun e => by
        cases q : bt rest e with
        | false => rfl
        | true =>
          have : 0 < bN rest := cnP_pos.mpr ⟨e, by have := (hs e q).1; omega, q⟩
          omega)
      subst hz
      exact ⟨σ, rfl, FR.rf, ri⟩
    · rw [if_neg (by rw [nI_leI (by decide) (by omega)]; exact hi)]
      by_cases hz : rest = 0
      · rw [if_pos ((lg0 _).mpr hz)]
        subst hz
        exact ⟨σ, rfl, FR.rf, ri⟩
      · rw [if_neg (by rw [lg0]; exact hz)]
        obtain ⟨e0, h64, x0, xl⟩ := least_ex hz
        obtain ⟨h0, hm⟩ := hs e0 x0
        rw [low_b1 x0 xl]
        obtain ⟨v, e1, hv0⟩ := k_way1 s.1 s.2.1 h0
        have hv : ∀ e, bt v e = true ↔ e < gE w h ∧ wayP w h mk e0 e := fun e => by
          rw [hv0 e]
          exact ⟨fun q => ⟨q.1, q.2.2⟩, fun q => ⟨q.1, hm, q.2⟩⟩
        rw [e1]
        simp only [ob]
        have hrest : ∀ e, bt (rest &&& (v ^^^ (-1 : Int64))) e = true ↔ bt rest e = true ∧ bt v e = false := by
          intro e
          rw [bt_and, bt_compl, Bool.and_eq_true]
          constructor
          · rintro ⟨a, q⟩
            refine ⟨a, ?_⟩
            cases z : bt v e with
            | false => rfl
            | true => rw [z] at q; simp at q
          · rintro ⟨a, q⟩
            refine ⟨a, ?_⟩
            have := bt_lt a
            rw [q]; simp [this]
        have hsub : ∀ e, bt v e = true → bt rest e = true := fun e q => hc e0 e x0 ((hv e).mp q).1 ((hv e).mp q).2
        have hN2 : bN (rest &&& (v ^^^ (-1 : Int64))) + (i + 1) ≤ 40 := by
          have : bN (rest &&& (v ^^^ (-1 : Int64))) < bN rest := by
            refine bN_up (fun e q => ((hrest e).mp q).1) (fun e q => by have := (hs e q).1; omega) (fun q => ?_)
            have := x0
            rw [q, hrest] at this
            rw [(hv e0).mpr ⟨h0, hm, CnI.rf⟩] at this
            cases this.2
          omega
        have hs2 : ∀ e, bt (rest &&& (v ^^^ (-1 : Int64))) e = true → e < gE w h ∧ mk e = 1 := fun e q => hs e ((hrest e).mp q).1
        have hc2 : ∀ e f, bt (rest &&& (v ^^^ (-1 : Int64))) e = true → f < gE w h → wayP w h mk e f → bt (rest &&& (v ^^^ (-1 : Int64))) f = true := by
          intro e f q hf wf
          obtain ⟨q1, q2⟩ := (hrest e).mp q
          refine (hrest f).mpr ⟨hc e f q1 hf wf, ?_⟩
          cases z : bt v f with
          | false => rfl
          | true =>
            have h3 := (hv f).mp z
            have : bt v e = true := (hv e).mpr ⟨(hs e q1).1, (hs e q1).2, wf.2.sy.tr h3.2.2⟩
            rw [this] at q2; cases q2
        have hnew : ∀ e, e < gE w h → (bt (rest &&& (v ^^^ (-1 : Int64))) e = false ↔ (bt rest e = false ∨ wayP w h mk e0 e)) := by
          intro e he
          constructor
          · intro q
            cases z : bt rest e with
            | false => exact Or.inl rfl
            | true =>
              right
              cases z2 : bt v e with
              | true => exact ((hv e).mp z2).2
              | false => rw [(hrest e).mpr ⟨z, z2⟩] at q; cases q
          · intro q
            cases z : bt (rest &&& (v ^^^ (-1 : Int64))) e with
            | false => rfl
            | true =>
              obtain ⟨z1, z2⟩ := (hrest e).mp z
              rcases q with q | q
              · rw [q] at z1; cases z1
              · rw [(hv e).mpr ⟨he, q⟩] at z2; cases z2
        have hv8 : ¬ v = 0 := by
          intro z
          have := (hv e0).mpr ⟨h0, hm, CnI.rf⟩
          rw [z, bt_0] at this; cases this
        obtain ⟨riB, riG⟩ := ri
        have go : ∀ σ1, FR b σ σ1 → RI σ1 b w h cnt mk (rest &&& (v ^^^ (-1 : Int64))) → ∃ σ', f_X0_lookAtRings_17 b n (rest &&& (v ^^^ (-1 : Int64))) (nI i + 1) σ1 = some σ' ∧ FR b σ σ' ∧ RI σ' b w h cnt mk 0 := by
          intro σ1 f1 r1
          rw [nI_1 i]
          obtain ⟨σ', a1, a2, a3⟩ := ih (i + 1) _ σ1 (by omega) (by omega) hN2 (s.fr hb f1) hs2 hc2 r1
          exact ⟨σ', a1, f1.tr a2, a3⟩
        rcases k_lookAtWay s h0 hm hv with ⟨c1, c2⟩ | ⟨c1, c3, c2⟩ | ⟨c1, c3, c2⟩ | ⟨c1, c3, c2⟩
        · rw [c2]
          simp only [ob]
          refine go σ FR.rf ⟨?_, ?_⟩
          · rcases riB with ⟨z1, z2⟩ | z
            · refine Or.inl ⟨fun e he q hb2 => ?_, z2⟩
              rcases (hnew e he).mp q with q | q
              · exact z1 e he q hb2
              · exact c1 (rgE_way ⟨hm, q.2.sy⟩ hb2.1)
            · exact Or.inr z
          · rw [riG]
            refine pI_c ⟨fun ⟨e, a1, a2, a3⟩ => ⟨e, a1, (hnew e a1).mpr (Or.inl a2), a3⟩, fun ⟨e, a1, a2, a3⟩ => ⟨e, a1, ?_, a3⟩⟩
            rcases (hnew e a1).mp a2 with q | q
            · exact q
            · exact absurd (rgE_way ⟨hm, q.2.sy⟩ a3.1) c1
        · rw [c2]
          simp only [ob]
          refine go _ FR.rf.wI ⟨?_, ?_⟩
          · rcases riB with ⟨z1, z2⟩ | z
            · refine Or.inl ⟨fun e he q hb2 => ?_, z2⟩
              rcases (hnew e he).mp q with q | q
              · exact z1 e he q hb2
              · exact c3 (badR_way ⟨hm, q.2.sy⟩ hb2)
            · exact Or.inr z
          · rw [sI_same, pI_t]
            exact ⟨e0, h0, (hnew e0 h0).mpr (Or.inr ⟨hm, CnI.rf⟩), c1, c3⟩
        · rw [c2]
          simp only [ob]
          refine go _ FR.rf.wL ⟨?_, ?_⟩
          · have hno : ∀ e, e < gE w h → bt rest e = false → ¬ badR w h cnt mk e := by
              rcases riB with ⟨z1, z2⟩ | z
              · exact z1
              · exact absurd c3 z.2.1
            have hl : lst (gE w h) (badR w h cnt mk) = e0 := lst_is h0 c1 (fun l hl hb2 => hno l (by omega) (xl l hl) hb2)
            right
            rw [sL_if, if_pos ⟨rfl, rfl⟩, hl]
            exact ⟨by omega, hv8, hv⟩
          · rw [sL_I, riG]
            refine pI_c ⟨fun ⟨e, a1, a2, a3⟩ => ⟨e, a1, (hnew e a1).mpr (Or.inl a2), a3⟩, fun ⟨e, a1, a2, a3⟩ => ⟨e, a1, ?_, a3⟩⟩
            rcases (hnew e a1).mp a2 with q | q
            · exact q
            · exact absurd (badR_way q c1) a3.2
        · rw [c2]
          simp only [ob]
          refine go σ FR.rf ⟨?_, ?_⟩
          · rcases riB with ⟨z1, z2⟩ | z
            · exact absurd z2 c3
            · exact Or.inr z
          · rw [riG]
            refine pI_c ⟨fun ⟨e, a1, a2, a3⟩ => ⟨e, a1, (hnew e a1).mpr (Or.inl a2), a3⟩, fun ⟨e, a1, a2, a3⟩ => ⟨e, a1, ?_, a3⟩⟩
            rcases (hnew e a1).mp a2 with q | q
            · exact q
            · exact absurd (badR_way q c1) a3.2
theorem k_lookAtRings {σ : vSt} {b w h : Nat} {cnt : Nat → Int32} {mk : Nat → Nat} (hb : 6 ≤ b) (s : S1 σ b w h cnt mk) : ∃ σ', f_X0_lookAtRings b σ = some σ' ∧ FR b σ σ' ∧ RG σ' b w h cnt mk := by
  have hd := s.1.1.1
  have h40 := gE_40 hd
  unfold f_X0_lookAtRings
  have f0 : FR b σ (sI (sL σ b 8 (0 : Int64)) b 9 (nI 0)) := FR.rf.wL.wI
  have hD : ∀ e, bt (gL (sI (sL σ b 8 (0 : Int64)) b 9 (nI 0)) b 2) e = true ↔ e < gE w h ∧ mk e = 1 := fun e => by
    rw [(s.fr hb f0).2.1.1, decide_eq_true_iff]
  simp only [ob]
  obtain ⟨σ', e1, f1, r1⟩ := k_rings17 (cnt := cnt) (mk := mk) (w := w) (h := h) hb 600 0 (gL (sI (sL σ b 8 (0 : Int64)) b 9 (nI 0)) b 2) (sI (sL σ b 8 (0 : Int64)) b 9 (nI 0)) (by decide) (by decide) (by rw [Nat.add_zero]; exact cnP_le 40 _) (s.fr hb f0) (fun e q => (hD e).mp q) (fun e f q hf wf => (hD f).mpr ⟨hf, wf.1⟩) (by
    refine ⟨Or.inl ⟨fun e he q hb2 => ?_, ?_⟩, ?_⟩
    · rw [(hD e).mpr ⟨he, hb2.1.1⟩] at q; cases q
    · show gL (sL σ b 8 (0 : Int64)) b 8 = 0
      rw [sL_if, if_pos ⟨rfl, rfl⟩]
    · rw [sI_same, pI_f]
      rintro ⟨e, he, q, r, _⟩
      rw [(hD e).mpr ⟨he, r.1⟩] at q; cases q)
  rw [e1]
  simp only [ob]
  refine ⟨σ', rfl, f0.tr f1, ?_, ?_⟩
  · rcases r1.1 with ⟨z1, z2⟩ | ⟨z1, z2, z3⟩
    · intro e
      rw [z2, bt_0]
      constructor
      · intro q; cases q
      · rintro ⟨_, q, _⟩
        exact absurd (lst_no (fun j hj => z1 j hj (bt_0 j))) q
    · intro e
      rw [z3 e]
      exact ⟨fun q => ⟨q.1, z1, q.2⟩, fun q => ⟨q.1, q.2.2⟩⟩
  · rw [r1.2]
    exact pI_c ⟨fun ⟨e, a1, a2, a3⟩ => ⟨e, a1, a3⟩, fun ⟨e, a1, a3⟩ => ⟨e, a1, bt_0 e, a3⟩⟩
