/-! THE LAW'S STEPS: types, sets -/
theorem q_types {σ : vSt} {w h : Nat} {cnt : Nat → Int32} {mk : Nat → Nat} {T : List Int32} {cv : Nat → Int32} {W0 H0 : Nat} (hcv : ∀ k, cok (cv k)) (z : PZ σ w h cnt mk T) (q : QG σ cv W0 H0) (x : Int32) : ∃ σ' T' acc' W H, f_L_types x (nI 4) σ = some (nI 1, σ') ∧ PZ σ' w h cnt mk T' ∧ QG σ' cv W H ∧ dim W H ∧ rdT T'.length (tk T' 0) 0 4 1 [] = .inl (W, H, acc') ∧ ∀ k, k < gC W H → acc'[k]? = some (cv k) := by
  unfold f_L_types
  have hT := z.out.2.2
  obtain ⟨σ1, e1, z1⟩ := z_clear z
  rw [e1]
  simp only [ob]
  rw [if_neg (by rw [nI_ltI (by omega) (by decide)]; omega)]
  simp only [ob]
  obtain ⟨a, ha, ea⟩ := q_low x (n := 4) (by decide) (by decide)
  obtain ⟨b, hb, eb⟩ := q_low (x >>> (nI 2 &&& 31)) (n := 4) (by decide) (by decide)
  rw [ea]
  simp only [ob]
  rw [eb]
  simp only [ob]
  rw [nI_add, nI_add]
  have z2 := z1.mg (σ0 := σ)
  have q2 := q.mg (σ' := σ1)
  have z3 : PZ (sI (sI (mergeS 30 σ1 σ) 30 0 (nI (1 + a))) 30 1 (nI (1 + b))) w h cnt mk [] := (z2.s30 (i := 30) (j := 0) (v := nI (1 + a)) (by decide)).s30 (by decide)
  have q3 : QG (sI (sI (mergeS 30 σ1 σ) 30 0 (nI (1 + a))) 30 1 (nI (1 + b))) cv (1 + a) (1 + b) := by
    refine ⟨?_, sI_same _ _ _ _, fun k hk => ?_, fun k hk => ?_⟩
    · rw [sI_ne _ _ (Or.inr (by decide)), sI_same]
    · rw [sI_ne _ _ (Or.inr (by omega)), sI_ne _ _ (Or.inr (by omega))]; exact q2.2.2.1 k hk
    · rw [sI_ne _ _ (Or.inr (by omega)), sI_ne _ _ (Or.inr (by omega))]; exact q2.2.2.2 k hk
  obtain ⟨σ4, T4, acc4, wd4, e4, z4, q4, s4, l4, el4⟩ := q_types39 (W := 1 + a) (H := 1 + b) hcv (by omega) (by omega) (by omega) 600 0 0 _ [] [] z3 q3 (Nat.zero_le _) (by omega) (Or.inl ⟨rfl, rfl, rfl⟩) (by rw [Nat.zero_mul]; rfl) (fun k hk => by rw [Nat.zero_mul] at hk; omega) (Nat.le_refl _)
  have e4' : f_L_types_39 600 (nI 1) (nI 0) (sI (sI (mergeS 30 σ1 σ) 30 0 (nI (1 + a))) 30 1 (nI (1 + b))) = some (nI 1, σ4) := e4
  rw [e4']
  simp only [ob]
  rw [if_neg (show ¬ nI 1 = nI 0 by decide)]
  obtain ⟨σ5, e5, z5⟩ := z_fault z4
  rcases s4 with ⟨s0, _, _⟩ | ⟨s1, R, sd⟩
  · omega
  · have hE : erB (1 + a) wd4 (1 + b) = true := by
      unfold erB
      by_cases c : 1 + b = 1
      · rw [if_pos c]; exact decide_eq_true (by omega)
      · rw [if_neg c]; exact decide_eq_true (sd c).symm
    rw [e5, RD_ok R hE]
    simp only [ob]
    rw [if_pos trivial]
    have hr := RD_end R
    rw [hE, if_pos rfl] at hr
    exact ⟨_, T4, acc4, 1 + a, 1 + b, rfl, z5.mg, q4.mg, ⟨by omega, by omega, by omega, by omega⟩, hr, fun k hk => el4 k (by
      have : gC (1 + a) (1 + b) = (1 + b) * (1 + a) := Nat.mul_comm _ _
      omega)⟩
def F30 (σ σ' : vSt) : Prop := (∀ q j, q ≠ 30 → gI σ' q j = gI σ q j) ∧ σ'.2 = σ.2
theorem F30.rf {σ : vSt} : F30 σ σ := ⟨fun _ _ _ => rfl, rfl⟩
theorem F30.wr {σ σ' : vSt} (x : F30 σ σ') {j : Nat} {v : Int32} : F30 σ (sI σ' 30 j v) := ⟨fun q j' hq => by rw [sI_ne _ _ (Or.inl hq)]; exact x.1 q j' hq, x.2⟩
theorem F30.tr {a b c : vSt} (x : F30 a b) (y : F30 b c) : F30 a c := ⟨fun q j hq => (y.1 q j hq).trans (x.1 q j hq), y.2.trans x.2⟩
theorem PZ.f30 {σ σ' : vSt} {w h : Nat} {cnt : Nat → Int32} {mk : Nat → Nat} {T : List Int32} (q : PZ σ w h cnt mk T) (f : F30 σ σ') : PZ σ' w h cnt mk T := q.fg (fun q j h => f.1 q j (by omega)) (fun q j _ => by unfold gL; rw [f.2])
theorem cok_lo {k : Nat} (hk : k < 4) : cok (nI k) := by
  rcases (show k = 0 ∨ k = 1 ∨ k = 2 ∨ k = 3 by omega) with rfl | rfl | rfl | rfl
  · exact Or.inr (Or.inl rfl)
  · exact Or.inr (Or.inr (Or.inl rfl))
  · exact Or.inr (Or.inr (Or.inr (Or.inl rfl)))
  · exact Or.inr (Or.inr (Or.inr (Or.inr rfl)))
theorem q_sets3 (y : Int32) : ∀ (n i : Nat) (σ σ0 : vSt), i ≤ 16 → 16 < i + n → F30 σ0 σ → gI σ 30 0 = gI σ0 30 0 → gI σ 30 1 = gI σ0 30 1 → (∀ k, k < i → cok (gI σ 30 (2 + k))) → ∃ σ', f_L_sets_3 y n (nI i) σ = some σ' ∧ F30 σ0 σ' ∧ gI σ' 30 0 = gI σ0 30 0 ∧ gI σ' 30 1 = gI σ0 30 1 ∧ ∀ k, k < 16 → cok (gI σ' 30 (2 + k)) := by
  intro n
  induction n with
  | zero => intro i σ σ0 a b; omega
  | succ n ih =>
    intro i σ σ0 a b f g0 g1 hc
    rw [f_L_sets_3.eq_2]
    by_cases z : 16 ≤ i
    · rw [if_pos ((nI_leI (by decide) (by omega)).mpr z)]
      exact ⟨σ, rfl, f, g0, g1, fun k hk => hc k (by omega)⟩
    · obtain ⟨v, hv, ev⟩ := q_low (y >>> (nI i &&& 31)) (n := 7) (by decide) (by decide)
      rw [if_neg (by rw [nI_leI (by decide) (by omega)]; exact z), ev, nI_1 i]
      simp only [ob]
      have hgo : ∀ u : Int32, cok u → ∃ σ', (if 0 ≤ (nI 2 + nI i).toInt ∧ (nI 2 + nI i).toInt < 64 then f_L_sets_3 y n (nI (i + 1)) (sI σ 30 (nI 2 + nI i).toNatClampNeg u) else none) = some σ' ∧ F30 σ0 σ' ∧ gI σ' 30 0 = gI σ0 30 0 ∧ gI σ' 30 1 = gI σ0 30 1 ∧ ∀ k, k < 16 → cok (gI σ' 30 (2 + k)) := by
        intro u hu
        rw [nI_add, if_pos (ig (by omega) (by omega)), nI_clamp (by omega)]
        refine ih (i + 1) _ σ0 (by omega) (by omega) f.wr ?_ ?_ (fun k hk => ?_)
        · rw [sI_ne _ _ (Or.inr (by omega))]; exact g0
        · rw [sI_ne _ _ (Or.inr (by omega))]; exact g1
        · by_cases c : k = i
          · rw [c, sI_same]; exact hu
          · rw [sI_ne _ _ (Or.inr (by omega))]; exact hc k (by omega)
      by_cases c : 4 ≤ v
      · rw [if_pos ((nI_leI (by decide) (by omega)).mpr c)]
        exact hgo (-1) (Or.inl rfl)
      · rw [if_neg (by rw [nI_leI (by decide) (by omega)]; exact c)]
        exact hgo (nI v) (cok_lo (by omega))
theorem q_sets48 : ∀ (n i : Nat) (σ σ0 : vSt), i ≤ 40 → 40 < i + n → F30 σ0 σ → (∀ j, j < 18 → gI σ 30 j = gI σ0 30 j) → (∀ e, e < i → gI σ 30 (18 + e) = nI 0) → ∃ σ', f_L_sets_48 n (nI i) σ = some σ' ∧ F30 σ0 σ' ∧ (∀ j, j < 18 → gI σ' 30 j = gI σ0 30 j) ∧ ∀ e, e < 40 → gI σ' 30 (18 + e) = nI 0 := by
  intro n
  induction n with
  | zero => intro i σ σ0 a b; omega
  | succ n ih =>
    intro i σ σ0 a b f g hc
    rw [f_L_sets_48.eq_2]
    by_cases z : 40 ≤ i
    · rw [if_pos ((nI_leI (by decide) (by omega)).mpr z)]
      exact ⟨σ, rfl, f, g, fun k hk => hc k (by omega)⟩
    · rw [if_neg (by rw [nI_leI (by decide) (by omega)]; exact z), nI_add, if_pos (ig (by omega) (by omega)), nI_clamp (by omega), nI_1 i]
      refine ih (i + 1) _ σ0 (by omega) (by omega) f.wr (fun j hj => ?_) (fun k hk => ?_)
      · rw [sI_ne _ _ (Or.inr (by omega))]; exact g j hj
      · by_cases c : k = i
        · rw [c, sI_same]
        · rw [sI_ne _ _ (Or.inr (by omega))]; exact hc k (by omega)
theorem txV_some {T : List Int32} {i : Nat} {c : Int32} (h : T[i]? = some c) : txV T i = c := by
  unfold txV
  rw [List.getD_eq_getElem?_getD, h]
  rfl
theorem q_sets {σ : vSt} {w h : Nat} {cnt : Nat → Int32} {mk : Nat → Nat} {T : List Int32} (q : LR σ w h cnt mk T) (x y : Int32) : ∃ σ' W H cnt' T', f_L_sets x y (nI 4) σ = some (nI 1, σ') ∧ LR σ' W H cnt' z0 T' := by
  obtain ⟨z, p⟩ := q
  unfold f_L_sets
  obtain ⟨σ1, e1, f1, g0, g1, c1⟩ := q_sets3 y 600 0 σ σ (Nat.zero_le _) (by omega) F30.rf rfl rfl (fun k hk => absurd hk (Nat.not_lt_zero k))
  have e1' : f_L_sets_3 y 600 (nI 0) σ = some σ1 := e1
  rw [e1']
  simp only [ob]
  obtain ⟨σ2, e2, f2, g2, m2⟩ := q_sets48 600 0 σ1 σ1 (Nat.zero_le _) (by omega) F30.rf (fun j _ => rfl) (fun k hk => absurd hk (Nat.not_lt_zero k))
  have e2' : f_L_sets_48 600 (nI 0) σ1 = some σ2 := e2
  rw [e2']
  simp only [ob]
  have z2 : PZ σ2 w h cnt mk T := (z.f30 f1).f30 f2
  obtain ⟨cv, hcvd⟩ : ∃ cv : Nat → Int32, cv = fun k => if k < 16 then gI σ2 30 (2 + k) else -1 := ⟨_, rfl⟩
  have hcv : ∀ k, cok (cv k) := by
    intro k
    rw [hcvd]
    by_cases c : k < 16
    · show cok (if k < 16 then _ else _)
      rw [if_pos c, g2 (2 + k) (by omega)]; exact c1 k c
    · show cok (if k < 16 then _ else _)
      rw [if_neg c]; exact Or.inl rfl
  have q2 : QG σ2 cv w h := by
    refine ⟨?_, ?_, fun k hk => ?_, m2⟩
    · rw [g2 0 (by decide), g0]; exact p.1.1
    · rw [g2 1 (by decide), g1]; exact p.1.2.1
    · rw [hcvd]; exact (if_pos hk).symm
  obtain ⟨σ3, T3, acc, W, H, e3, z3, q3, hd, hr, el⟩ := q_types hcv z2 q2 x
  rw [e3]
  simp only [ob]
  rw [if_neg (show ¬ nI 1 = nI 0 by decide)]
  obtain ⟨σ4, e4, z4⟩ := z_setPuzzle z3 hr
  rw [e4]
  simp only [ob]
  have h16 := gC_16 hd
  have h40 := gE_40 hd
  have q4 : QG (mergeS 30 σ4 σ3) cv W H := q3.mg
  have z5 : PZ (mergeS 30 σ4 σ3) W H (fun c => if gC W H ≤ c then -1 else txV acc c) z0 T3 := z4.mg
  have p5 : PG (mergeS 30 σ4 σ3) W H (fun c => if gC W H ≤ c then -1 else txV acc c) z0 := by
    refine ⟨⟨q4.1, q4.2.1, hd⟩, fun k hk => ?_, fun e he => q4.2.2.2 e (by omega), fun e => by show 0 < 3; decide, fun k => ?_⟩
    · show _ = if gC W H ≤ k then -1 else txV acc k
      rw [if_neg (by omega), txV_some (el k hk)]
      exact q4.2.2.1 k (by omega)
    · show cok (if gC W H ≤ k then -1 else txV acc k)
      by_cases c : gC W H ≤ k
      · rw [if_pos c]; exact Or.inl rfl
      · rw [if_neg c, txV_some (el k (by omega))]; exact hcv k
  rw [q_edges p5.1]
  simp only [ob]
  rw [if_pos trivial, z_count0 z5]
  simp only [ob]
  rw [if_pos q4.1.symm, z_count1 z5]
  simp only [ob]
  rw [if_pos q4.2.1.symm, z_count2 z5]
  simp only [ob]
  rw [if_pos trivial]
  exact ⟨_, W, H, _, T3, rfl, z5, p5⟩
/-! the loop -/
theorem cn_sum {mk : Nat → Nat} (h3 : ∀ e, mk e < 3) : ∀ n, cnP n (fun e => mk e = 0) + cnP n (fun e => mk e = 1) + cnP n (fun e => mk e = 2) = n := by
  intro n
  induction n with
  | zero => rfl
  | succ n ih =>
    rw [cnP_s, cnP_s, cnP_s]
    have h := h3 n
    rcases (show mk n = 0 ∨ mk n = 1 ∨ mk n = 2 by omega) with e | e | e
    · rw [iv_t e, iv_f (show ¬ mk n = 1 by omega), iv_f (show ¬ mk n = 2 by omega)]; omega
    · rw [iv_t e, iv_f (show ¬ mk n = 0 by omega), iv_f (show ¬ mk n = 2 by omega)]; omega
    · rw [iv_t e, iv_f (show ¬ mk n = 0 by omega), iv_f (show ¬ mk n = 1 by omega)]; omega
def CLR (σ σ' : vSt) (mk : Nat → Nat) (E i : Nat) : Prop := F30 σ σ' ∧ (∀ j, j < 18 → gI σ' 30 j = gI σ 30 j) ∧ (∀ e, e < i → gI σ' 30 (18 + e) = nI 0) ∧ ∀ e, i ≤ e → e < E → gI σ' 30 (18 + e) = nI (mk e)
theorem q_law338 {w h : Nat} {cnt : Nat → Int32} {mk : Nat → Nat} {σ0 : vSt} (p : PG σ0 w h cnt mk) (a : Nat) : ∀ (n i : Nat) (σ : vSt), i ≤ gE w h → gE w h < i + n → CLR σ0 σ mk (gE w h) i → ∃ σ', f_L_law_338x119 n (nI (a + cnP i (fun e => mk e = 2))) (nI i) σ = some (nI (a + cnP (gE w h) (fun e => mk e = 2)), σ') ∧ CLR σ0 σ' mk (gE w h) (gE w h) := by
  have h40 := gE_40 p.1.2.2
  intro n
  induction n with
  | zero => intro i σ a b; omega
  | succ n ih =>
    intro i σ a1 b1 c
    have pd : PD σ w h := ⟨(c.2.1 0 (by decide)).trans p.1.1, (c.2.1 1 (by decide)).trans p.1.2.1, p.1.2.2⟩
    rw [f_L_law_338x119.eq_2, q_edges pd]
    simp only [ob]
    by_cases z : gE w h ≤ i
    · have hi : i = gE w h := by omega
      subst hi
      rw [if_pos ((nI_leI (by omega) (by omega)).mpr (Nat.le_refl _))]
      exact ⟨σ, rfl, c⟩
    · have hi : i < gE w h := by omega
      have hm := p.2.2.2.1 i
      rw [if_neg (by rw [nI_leI (by omega) (by omega)]; exact z), nI_add (a := 18), if_pos (ig (by omega) (by omega)), nI_clamp (by omega), c.2.2.2 i (Nat.le_refl _) hi, nI_1 i]
      have e1 : ((if nI (mk i) = nI 2 then some (nI 1) else some (nI 0)) : Option Int32) = some (nI (iv (mk i = 2))) := by
        by_cases y : mk i = 2
        · rw [if_pos (by rw [y]), iv_t y]
        · rw [if_neg (by rw [nI_eq (by omega) (by decide)]; exact y), iv_f y]
      rw [e1]
      simp only [ob]
      rw [if_pos (ig (by omega) (by omega)), nI_add, Nat.add_assoc, ← cnP_s]
      refine ih (i + 1) _ (by omega) (by omega) ⟨c.1.wr, fun j hj => ?_, fun e he => ?_, fun e h1 h2 => ?_⟩
      · rw [sI_ne _ _ (Or.inr (by omega))]; exact c.2.1 j hj
      · by_cases y : e = i
        · rw [y, sI_same]
        · rw [sI_ne _ _ (Or.inr (by omega))]; exact c.2.2.1 e (by omega)
      · rw [sI_ne _ _ (Or.inr (by omega))]; exact c.2.2.2 e (by omega) h2
