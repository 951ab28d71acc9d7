/-! THE LAW'S STEPS: the edges around cells and at corners -/
def cA (w h k e : Nat) : Nat := (gArL w h k).countP (fun x => decide (x < e))
def cT (w h k e : Nat) : Nat := (gToL w h k).countP (fun x => decide (x < e))
theorem cA_dec : dimAll (fun w h => allLt (gC w h) fun k => (decide (cA w h k 0 = 0) && (decide (cA w h k (gE w h) = 4) && decide ((gArL w h k)[4]? = none))) && allLt (gE w h) fun e => if e ∈ gArL w h k then (decide ((gArL w h k)[cA w h k e]? = some e) && decide (cA w h k (e + 1) = cA w h k e + 1)) else decide (cA w h k (e + 1) = cA w h k e)) = true := by decide +kernel
theorem cT_dec : dimAll (fun w h => allLt (gK w h) fun k => (decide (cT w h k 0 = 0) && decide ((gToL w h k)[cT w h k (gE w h)]? = none)) && allLt (gE w h) fun e => if gEn w h e 0 = k ∨ gEn w h e 1 = k then (decide ((gToL w h k)[cT w h k e]? = some e) && decide (cT w h k (e + 1) = cT w h k e + 1)) else decide (cT w h k (e + 1) = cT w h k e)) = true := by decide +kernel
theorem cA_le (w h k e : Nat) : cA w h k e ≤ 4 := by
  unfold cA
  exact Nat.le_trans List.countP_le_length (Nat.le_refl 4)
theorem cT_le (w h k e : Nat) : cT w h k e ≤ 4 := by
  unfold cT
  exact Nat.le_trans List.countP_le_length (gToL_len w h k)
theorem cA_y {w h k e : Nat} (hd : dim w h) (hk : k < gC w h) (he : e < gE w h) (m : e ∈ gArL w h k) : (gArL w h k)[cA w h k e]? = some e ∧ cA w h k (e + 1) = cA w h k e + 1 := by
  have x := allLt_of (and_r (allLt_of (dimAll_of cA_dec hd) hk)) he
  rw [if_pos m] at x
  exact ⟨of_decide_eq_true (and_l x), of_decide_eq_true (and_r x)⟩
theorem cA_n {w h k e : Nat} (hd : dim w h) (hk : k < gC w h) (he : e < gE w h) (m : ¬ e ∈ gArL w h k) : cA w h k (e + 1) = cA w h k e := by
  have x := allLt_of (and_r (allLt_of (dimAll_of cA_dec hd) hk)) he
  rw [if_neg m] at x
  exact of_decide_eq_true x
theorem cA_z {w h k : Nat} (hd : dim w h) (hk : k < gC w h) : cA w h k 0 = 0 ∧ cA w h k (gE w h) = 4 ∧ (gArL w h k)[4]? = none := by
  have x := and_l (allLt_of (dimAll_of cA_dec hd) hk)
  exact ⟨of_decide_eq_true (and_l x), of_decide_eq_true (and_l (and_r x)), of_decide_eq_true (and_r (and_r x))⟩
theorem cT_y {w h k e : Nat} (hd : dim w h) (hk : k < gK w h) (he : e < gE w h) (m : gEn w h e 0 = k ∨ gEn w h e 1 = k) : (gToL w h k)[cT w h k e]? = some e ∧ cT w h k (e + 1) = cT w h k e + 1 := by
  have x := allLt_of (and_r (allLt_of (dimAll_of cT_dec hd) hk)) he
  rw [if_pos m] at x
  exact ⟨of_decide_eq_true (and_l x), of_decide_eq_true (and_r x)⟩
theorem cT_n {w h k e : Nat} (hd : dim w h) (hk : k < gK w h) (he : e < gE w h) (m : ¬ (gEn w h e 0 = k ∨ gEn w h e 1 = k)) : cT w h k (e + 1) = cT w h k e := by
  have x := allLt_of (and_r (allLt_of (dimAll_of cT_dec hd) hk)) he
  rw [if_neg m] at x
  exact of_decide_eq_true x
theorem cT_z {w h k : Nat} (hd : dim w h) (hk : k < gK w h) : cT w h k 0 = 0 ∧ (gToL w h k)[cT w h k (gE w h)]? = none := by
  have x := and_l (allLt_of (dimAll_of cT_dec hd) hk)
  exact ⟨of_decide_eq_true (and_l x), of_decide_eq_true (and_r x)⟩
def cA' (w h k e : Nat) : Nat := if k < gC w h then cA w h k e else 0
theorem q_areAt18 {σ : vSt} {w h : Nat} {cnt : Nat → Int32} {mk : Nat → Nat} {T : List Int32} (q : LR σ w h cnt mk T) {k : Nat} (hk : k < gK w h) : ∀ (n e : Nat), e ≤ gE w h → gE w h < e + n → f_L_areAt_18x13 σ (nI k) n (nI (cA' w h k e)) (nI (cT w h k e)) (nI e) = some (.inr (nI (cA' w h k (gE w h)), nI (cT w h k (gE w h)))) := by
  obtain ⟨z, p⟩ := q
  have hd := p.1.2.2
  have h40 := gE_40 hd
  have h16 := gC_16 hd
  have h25 := gK_25 hd
  intro n
  induction n with
  | zero => intro e a b; omega
  | succ n ih =>
    intro e a b
    rw [f_L_areAt_18x13.eq_2, q_edges p.1]
    simp only [ob]
    by_cases y : gE w h ≤ e
    · rw [if_pos ((nI_leI (by omega) (by omega)).mpr y), show e = gE w h by omega]
    · have he : e < gE w h := by omega
      have lA := cA_le w h k e
      have lT := cT_le w h k e
      rw [if_neg (by rw [nI_leI (by omega) (by omega)]; exact y), q_cells p.1, nI_1 e]
      have e1 : ((if nI (gC w h) ≤ nI k then some (.inr (nI (cA' w h k e))) else ((f_L_isAround (nI e) (nI k) σ).bind fun v24 => (if v24 = nI 0 then some (.inr (nI (cA' w h k e))) else ((f_X6_edgeAt (nI 0) (nI k) (nI (cA' w h k e)) σ).bind fun v28 => (if v28 = nI e then some (.inr (nI (cA' w h k e) + 1)) else some (.inl (nI 0))))))) : Option (Int32 ⊕ (Int32))) = some (.inr (nI (cA' w h k (e + 1)))) := by
        by_cases c : gC w h ≤ k
        · rw [if_pos ((nI_leI (by omega) (by omega)).mpr c)]
          unfold cA'
          rw [if_neg (by omega), if_neg (by omega)]
        · have hkC : k < gC w h := by omega
          rw [if_neg (by rw [nI_leI (by omega) (by omega)]; exact c), q_isAround p.1 he hkC]
          have eA : ∀ e, cA' w h k e = cA w h k e := fun e => if_pos hkC
          rw [eA, eA]
          simp only [ob]
          by_cases m : e ∈ gArL w h k
          · obtain ⟨a1, a2⟩ := cA_y hd hkC he m
            rw [if_pos m, if_neg (show ¬ nI 1 = nI 0 by decide), z_edgeAt0 z hkC (by omega), a1]
            simp only [ob]
            rw [if_pos (show oI (some e) = nI e from rfl), nI_1, a2]
          · rw [if_neg m, if_pos (show nI 0 = nI 0 from rfl), cA_n hd hkC he m]
      rw [e1]
      simp only [ob]
      rw [q_isAt p.1 he hk]
      simp only [ob]
      by_cases m : gEn w h e 0 = k ∨ gEn w h e 1 = k
      · obtain ⟨a1, a2⟩ := cT_y hd hk he m
        rw [if_pos m, if_neg (show ¬ nI 1 = nI 0 by decide), z_edgeAt1 z hk (by omega), a1]
        simp only [ob]
        rw [if_pos (show oI (some e) = nI e from rfl), nI_1, ← a2]
        exact ih (e + 1) (by omega) (by omega)
      · rw [if_neg m, if_pos (show nI 0 = nI 0 from rfl), ← cT_n hd hk he m]
        exact ih (e + 1) (by omega) (by omega)
theorem q_areAt2 {σ : vSt} {w h : Nat} {cnt : Nat → Int32} {mk : Nat → Nat} {T : List Int32} (q : LR σ w h cnt mk T) : ∀ (n k : Nat), k ≤ gK w h → gK w h < k + n → f_L_areAt_2 σ n (nI k) = some (.inr ()) := by
  have p := q.2
  have z := q.1
  have hd := p.1.2.2
  have h40 := gE_40 hd
  have h16 := gC_16 hd
  have h25 := gK_25 hd
  intro n
  induction n with
  | zero => intro k a b; omega
  | succ n ih =>
    intro k a b
    rw [f_L_areAt_2.eq_2, q_corners p.1]
    simp only [ob]
    by_cases y : gK w h ≤ k
    · rw [if_pos ((nI_leI (by omega) (by omega)).mpr y)]
    · have hk : k < gK w h := by omega
      have lT := cT_le w h k (gE w h)
      obtain ⟨t0, t1⟩ := cT_z hd hk
      have e1 := q_areAt18 q hk 600 0 (Nat.zero_le _) (by omega)
      have a0 : cA' w h k 0 = 0 := by
        unfold cA'
        by_cases c : k < gC w h
        · rw [if_pos c]; exact (cA_z hd c).1
        · rw [if_neg c]
      rw [a0, t0] at e1
      rw [if_neg (by rw [nI_leI (by omega) (by omega)]; exact y), e1, nI_1 k]
      simp only [ob]
      rw [z_edgeAt1 z hk (by omega), t1]
      simp only [ob]
      rw [if_pos (show oI none = -1 from rfl), q_cells p.1]
      by_cases c : gC w h ≤ k
      · rw [if_pos ((nI_leI (by omega) (by omega)).mpr c)]
        exact ih (k + 1) (by omega) (by omega)
      · have hkC : k < gC w h := by omega
        obtain ⟨b0, b1, b2⟩ := cA_z hd hkC
        rw [if_neg (by rw [nI_leI (by omega) (by omega)]; exact c), if_pos (show nI (cA' w h k (gE w h)) = nI 4 by unfold cA'; rw [if_pos hkC, b1]), z_edgeAt0 z hkC (by decide), b2]
        simp only [ob]
        rw [if_pos (show oI none = -1 from rfl)]
        exact ih (k + 1) (by omega) (by omega)
theorem q_areAt {σ : vSt} {w h : Nat} {cnt : Nat → Int32} {mk : Nat → Nat} {T : List Int32} (q : LR σ w h cnt mk T) : f_L_areAt σ = some (nI 1) := by
  have p := q.2
  have z := q.1
  have hd := p.1.2.2
  have h40 := gE_40 hd
  have h16 := gC_16 hd
  have h25 := gK_25 hd
  have e1 := q_areAt2 q 600 0 (Nat.zero_le _) (by omega)
  unfold f_L_areAt
  rw [e1]
  simp only [ob]
  rw [q_corners p.1]
  simp only [ob]
  rw [z_edgeAt1Bad z (Or.inl (nI_far (by omega) (Nat.le_refl _)))]
  simp only [ob]
  rw [if_pos trivial, q_cells p.1, z_edgeAt0Bad z (Or.inl (nI_far (by omega) (Nat.le_refl _)))]
  simp only [ob]
  rw [if_pos trivial, z_edgeAt1Bad z (Or.inr (by decide))]
  simp only [ob]
  rw [if_pos trivial]
/-! the ways, and what does not fit -/
theorem PZ.f31 {σ σ' : vSt} {w h : Nat} {cnt : Nat → Int32} {mk : Nat → Nat} {T : List Int32} (q : PZ σ w h cnt mk T) (f : F31 σ σ') : PZ σ' w h cnt mk T := q.fg (fun q j h => f.1 q j (by omega)) (fun q j _ => by unfold gL; rw [f.2])
theorem q_areWays12 {σ : vSt} {w h : Nat} {cnt : Nat → Int32} {mk : Nat → Nat} {T : List Int32} (q : LR σ w h cnt mk T) (v : WV σ w h mk) : ∀ (n e : Nat), e ≤ gE w h → gE w h < e + n → f_L_areWaysT_12 σ n (nI e) = some (.inr ()) := by
  have p := q.2
  have z := q.1
  have hd := p.1.2.2
  have h40 := gE_40 hd
  intro n
  induction n with
  | zero => intro e a b; omega
  | succ n ih =>
    intro e a b
    rw [f_L_areWaysT_12.eq_2, q_edges p.1]
    simp only [ob]
    by_cases y : gE w h ≤ e
    · rw [if_pos ((nI_leI (by omega) (by omega)).mpr y)]
    · have he : e < gE w h := by omega
      have ge : (0 : Int) ≤ (nI e).toInt ∧ (nI e).toInt < 40 := ig (by omega) (by omega)
      obtain ⟨us0, w0⟩ := z_way z he (k := 0) (by decide)
      obtain ⟨us1, w1⟩ := z_way z he (k := 1) (by decide)
      obtain ⟨us2, w2⟩ := z_way z he (k := 2) (by decide)
      rw [if_neg (by rw [nI_leI (by omega) (by omega)]; exact y), if_pos ge, nI_clamp (by omega), w0, w1, w2, nI_1 e]
      by_cases c : mk e = 1
      · have hm := (wy_mem he c).1
        have v0 : wayV (mkS w h cnt mk us0) e 0 = nI (cnP (gE w h) (wayP w h mk e)) := by
          unfold wayV
          rw [if_pos (show (mkS w h cnt mk us0).mk e = 1 from c), if_neg (by decide), if_pos rfl]; rfl
        have v1 : wayV (mkS w h cnt mk us1) e 1 = nI (lst (gE w h) (wayP w h mk e)) := by
          unfold wayV
          rw [if_pos (show (mkS w h cnt mk us1).mk e = 1 from c), if_pos rfl]; rfl
        have v2 : wayV (mkS w h cnt mk us2) e 2 = pI (rgK w h mk (gEn w h e 0)) := by
          unfold wayV
          rw [if_pos (show (mkS w h cnt mk us2).mk e = 1 from c), if_neg (by decide), if_neg (by decide)]; rfl
        rw [(v e he).1 c, v0, v1, v2, if_neg (show ¬ nI (lst (gE w h) (wayP w h mk e)) < nI 0 by rw [nI_ltI (by omega) (by decide)]; omega)]
        simp only [ob]
        rw [if_neg (show ¬ nI 1 = nI 0 by decide), if_pos ge, q_size p v he c]
        simp only [ob]
        rw [if_pos trivial, if_pos ge, if_pos trivial]
        rw [if_neg (show ¬ nI 1 = nI 0 by decide), if_pos ge, q_isRing p v he c]
        simp only [ob]
        rw [pI_ite]
        simp only [ob]
        rw [if_pos trivial]
        exact ih (e + 1) (by omega) (by omega)
      · have vn : ∀ us k, wayV (mkS w h cnt mk us) e k = -1 := fun us k => by
          unfold wayV
          rw [if_neg (show ¬ (mkS w h cnt mk us).mk e = 1 from c)]
        rw [(v e he).2 c, vn, vn, vn, if_pos m1_lt0]
        simp only [ob]
        rw [if_pos trivial]
        simp only [ob]
        rw [if_pos trivial, if_pos ge, if_pos trivial]
        rw [if_pos trivial]
        simp only [ob]
        rw [if_pos trivial]
        exact ih (e + 1) (by omega) (by omega)
theorem mis0 (x : Sn) : misV x (nI 0) = tI (lst (gC x.w x.h) (badC x.w x.h x.cnt x.mk)) := by unfold misV; rw [if_pos rfl]
theorem mis1 (x : Sn) : misV x (nI 1) = tI (lst (gK x.w x.h) (badK x.w x.h x.mk)) := by unfold misV; rw [if_neg (by decide), if_pos rfl]
theorem mis2 (x : Sn) : misV x (nI 2) = tI (lst (gE x.w x.h) (badR x.w x.h x.cnt x.mk)) := by unfold misV; rw [if_neg (by decide), if_neg (by decide), if_pos rfl]
theorem mis3 (x : Sn) : misV x (nI 3) = pI (fitA x.w x.h x.cnt x.mk) := by unfold misV; rw [if_neg (by decide), if_neg (by decide), if_neg (by decide), if_pos rfl]
theorem mis4 (x : Sn) : misV x (nI 4) = pI (fitA x.w x.h x.cnt x.mk ∧ hasR x.w x.h x.mk) := by unfold misV; rw [if_neg (by decide), if_neg (by decide), if_neg (by decide), if_neg (by decide), if_pos rfl]
theorem mis5 (x : Sn) : misV x (nI 5) = -2 := by unfold misV; rw [if_neg (by decide), if_neg (by decide), if_neg (by decide), if_neg (by decide), if_neg (by decide)]
theorem tI_ge {j : Nat} (h : j < 2 ^ 31) : nI 0 ≤ tI j ↔ j ≠ 99 := by
  unfold tI
  by_cases c : j = 99
  · rw [if_pos c]
    exact ⟨fun q => absurd q (by decide), fun q => absurd c q⟩
  · rw [if_neg c]
    exact ⟨fun _ => c, fun _ => nI_nn j h⟩
theorem q_areWays {σ : vSt} {w h : Nat} {cnt : Nat → Int32} {mk : Nat → Nat} {T : List Int32} (q : LR σ w h cnt mk T) : ∃ σ', f_L_areWays σ = some (nI 1, σ') ∧ LR σ' w h cnt mk T := by
  have hd := q.2.1.2.2
  have h40 := gE_40 hd
  have h16 := gC_16 hd
  have h25 := gK_25 hd
  have z0' : PZ (mergeS 31 σ st_0) w h cnt mk T := q.1.fg (fun _ j x => mg_lt 31 σ st_0 j (by omega)) (fun _ j x => mg_ltL 31 σ st_0 j (by omega))
  have p0 : PG (mergeS 31 σ st_0) w h cnt mk := q.2.same (fun j => mg_lt 31 σ st_0 j (by decide))
  unfold f_L_areWays f_L_areWaysT
  obtain ⟨σ1, e1, f1, v⟩ := q_joins p0
  rw [e1]
  simp only [ob]
  have p := p0.f31 f1
  have z := z0'.f31 f1
  have q1 : LR σ1 w h cnt mk T := ⟨z, p⟩
  rw [q_areWays12 q1 v 600 0 (Nat.zero_le _) (by omega)]
  simp only [ob]
  obtain ⟨b, eb, hb⟩ := q_firstRing p v
  rw [eb]
  simp only [ob]
  rw [q_firstCell p]
  simp only [ob]
  rw [q_firstCorner p]
  simp only [ob]
  obtain ⟨u0, m0⟩ := z_misfit z (nI 0)
  obtain ⟨u1, m1⟩ := z_misfit z (nI 1)
  obtain ⟨u2, m2⟩ := z_misfit z (nI 2)
  obtain ⟨u3, m3⟩ := z_misfit z (nI 3)
  obtain ⟨u4, m4⟩ := z_misfit z (nI 4)
  obtain ⟨u5, m5⟩ := z_misfit z (nI 5)
  rw [mis0] at m0
  rw [mis1] at m1
  rw [mis2] at m2
  rw [mis3] at m3
  rw [mis4] at m4
  rw [mis5] at m5
  have n0 : f_X6_misfit (nI 0) σ1 = some (tI (lst (gC w h) (badC w h cnt mk))) := m0
  have n1 : f_X6_misfit (nI 1) σ1 = some (tI (lst (gK w h) (badK w h mk))) := m1
  have n2 : f_X6_misfit (nI 2) σ1 = some (tI (lst (gE w h) (badR w h cnt mk))) := m2
  have n3 : f_X6_misfit (nI 3) σ1 = some (pI (fitA w h cnt mk)) := m3
  have n4 : f_X6_misfit (nI 4) σ1 = some (pI (fitA w h cnt mk ∧ hasR w h mk)) := m4
  have lC : lst (gC w h) (badC w h cnt mk) < 2 ^ 31 := lst_lt (by omega)
  have lK : lst (gK w h) (badK w h mk) < 2 ^ 31 := lst_lt (by omega)
  have lE : lst (gE w h) (badR w h cnt mk) < 2 ^ 31 := lst_lt (by omega)
  have gb : nI 0 ≤ b ↔ lst (gE w h) (badR w h cnt mk) ≠ 99 := by
    rcases hb with ⟨x, y⟩ | ⟨x, _, y⟩ | ⟨x, _, y⟩
    · rw [y]; exact ⟨fun _ => x, fun _ => nI_nn _ lE⟩
    · rw [y]; exact ⟨fun g => absurd g (by decide), fun g => absurd x g⟩
    · rw [y]; exact ⟨fun g => absurd g (by decide), fun g => absurd x g⟩
  have fit : fitA w h cnt mk ↔ (lst (gC w h) (badC w h cnt mk) = 99 ∧ lst (gK w h) (badK w h mk) = 99 ∧ lst (gE w h) (badR w h cnt mk) = 99) := by
    rw [lst_99 (by omega), lst_99 (by omega), lst_99 (by omega)]
    exact Iff.rfl
  have ef : ((if nI 0 ≤ tI (lst (gC w h) (badC w h cnt mk)) then some (nI 0) else (if nI 0 ≤ tI (lst (gK w h) (badK w h mk)) then some (nI 0) else (if nI 0 ≤ b then some (nI 0) else some (nI 1)))) : Option Int32) = some (pI (fitA w h cnt mk)) := by
    by_cases c0 : lst (gC w h) (badC w h cnt mk) = 99
    · rw [if_neg (fun g => (tI_ge lC).mp g c0)]
      by_cases c1 : lst (gK w h) (badK w h mk) = 99
      · rw [if_neg (fun g => (tI_ge lK).mp g c1)]
        by_cases c2 : lst (gE w h) (badR w h cnt mk) = 99
        · rw [if_neg (fun g => gb.mp g c2), pI_t (fit.mpr ⟨c0, c1, c2⟩)]
        · rw [if_pos (gb.mpr c2), pI_f (fun g => c2 (fit.mp g).2.2)]
      · rw [if_pos ((tI_ge lK).mpr c1), pI_f (fun g => c1 (fit.mp g).2.1)]
    · rw [if_pos ((tI_ge lC).mpr c0), pI_f (fun g => c0 (fit.mp g).1)]
  rw [ef]
  simp only [ob]
  rw [n0]
  simp only [ob]
  rw [if_pos trivial, n1]
  simp only [ob]
  rw [if_pos trivial, n2]
  simp only [ob]
  have er : ((if nI 0 ≤ b then some b else some (-1 : Int32)) : Option Int32) = some (tI (lst (gE w h) (badR w h cnt mk))) := by
    rcases hb with ⟨x, y⟩ | ⟨x, _, y⟩ | ⟨x, _, y⟩
    · rw [if_pos (gb.mpr x), y, tI_n x]
    · rw [if_neg (fun g => gb.mp g x), x]; rfl
    · rw [if_neg (fun g => gb.mp g x), x]; rfl
  rw [er]
  simp only [ob]
  rw [if_pos trivial, n3]
  simp only [ob]
  rw [pI_ite]
  simp only [ob]
  rw [if_pos trivial, n4]
  simp only [ob]
  have e4 : ((if pI (fitA w h cnt mk) = nI 0 then some (nI 0) else (if b = (-1 : Int32) then some (nI 1) else some (nI 0))) : Option Int32) = some (pI (fitA w h cnt mk ∧ hasR w h mk)) := by
    by_cases c : fitA w h cnt mk
    · rw [pI_t c, if_neg (show ¬ nI 1 = nI 0 by decide)]
      have c9 := (fit.mp c).2.2
      rcases hb with ⟨x, y⟩ | ⟨x, hr, y⟩ | ⟨x, hr, y⟩
      · exact absurd c9 x
      · rw [y, if_pos rfl, pI_t ⟨c, hr⟩]
      · rw [y, if_neg (by decide), pI_f (fun g => hr g.2)]
    · rw [pI_f c, if_pos (show nI 0 = nI 0 from rfl), pI_f (fun g => c g.1)]
  rw [e4]
  simp only [ob]
  rw [if_pos trivial]
  simp only [ob]
  rw [if_neg (show ¬ nI 1 = nI 0 by decide), m5]
  simp only [ob]
  rw [if_pos trivial, z_wayBad z (Or.inr (nI_far (by decide) (Nat.le_refl _)))]
  simp only [ob]
  rw [if_pos trivial, q_edges p.1]
  simp only [ob]
  rw [z_wayBad z (Or.inl (nI_far (by omega) (Nat.le_refl _)))]
  simp only [ob]
  rw [if_pos trivial]
  exact ⟨σ1, rfl, q1⟩
