/-! THE CLASS: the history -/
def SLT (σ : vSt) (p : Nat) (y : Sn) : Prop := gI σ 21 p = nI y.w ∧ gI σ 22 p = nI y.h ∧ (∀ e, bt (gL σ 23 p) e = decide (e < gE y.w y.h ∧ y.mk e = 1)) ∧ (∀ e, bt (gL σ 24 p) e = decide (e < gE y.w y.h ∧ y.mk e = 0)) ∧ (∀ c, c < 16 → gI σ 25 (p * 16 + c) = y.cnt c) ∧ ∀ r, r < 8 → gI σ 26 (p * 8 + r) = y.us r
def HC (σ : vSt) (L : List Sn) : Prop := ∃ n, n < 8 ∧ gI σ 20 7 = nI n ∧ gI σ 20 6 = nI L.length ∧ L.length ≤ 8 ∧ ∀ (s : Nat) (y : Sn), L[s]? = some y → SLT σ ((n + 8 - L.length + s) % 8) y
theorem SLT_same {σ σ' : vSt} {p : Nat} {y : Sn} (s : SLT σ p y) (h21 : gI σ' 21 p = gI σ 21 p) (h22 : gI σ' 22 p = gI σ 22 p) (h23 : gL σ' 23 p = gL σ 23 p) (h24 : gL σ' 24 p = gL σ 24 p) (h25 : ∀ c, c < 16 → gI σ' 25 (p * 16 + c) = gI σ 25 (p * 16 + c)) (h26 : ∀ r, r < 8 → gI σ' 26 (p * 8 + r) = gI σ 26 (p * 8 + r)) : SLT σ' p y := by
  obtain ⟨a, b, c, d, e, f⟩ := s
  exact ⟨h21.trans a, h22.trans b, fun i => by rw [h23]; exact c i, fun i => by rw [h24]; exact d i, fun i hi => (h25 i hi).trans (e i hi), fun i hi => (h26 i hi).trans (f i hi)⟩
theorem HC.fg {σ σ' : vSt} {L : List Sn} (hh : HC σ L) (hI : ∀ q j, 20 ≤ q → q ≤ 26 → gI σ' q j = gI σ q j) (hL : ∀ q j, 20 ≤ q → q ≤ 26 → gL σ' q j = gL σ q j) : HC σ' L := by
  obtain ⟨n, h1, h2, h3, h4, h5⟩ := hh
  exact ⟨n, h1, (hI _ _ (by decide) (by decide)).trans h2, (hI _ _ (by decide) (by decide)).trans h3, h4, fun s y hy => SLT_same (h5 s y hy) (hI _ _ (by decide) (by decide)) (hI _ _ (by decide) (by decide)) (hL _ _ (by decide) (by decide)) (hL _ _ (by decide) (by decide)) (fun c _ => hI _ _ (by decide) (by decide)) (fun c _ => hI _ _ (by decide) (by decide))⟩
theorem fm_dec : ∀ a, a < 17 → f_J9_floorMod_7cf53 (nI a) (nI 8) = some (nI (a % 8)) := by decide +kernel
theorem fd_dec : ∀ a, a < 9 → f_J9_floorMod_7cf53 (nI a - nI 1) (nI 8) = some (nI ((a + 7) % 8)) := by decide +kernel
theorem mn8_dec : ∀ a, a < 9 → f_J9_min_7cf53 (nI a + nI 1) (nI 8) = some (nI (min (a + 1) 8)) := by decide +kernel
theorem mx8_dec : ∀ a, a < 9 → f_J9_max_7cf53 (nI a - nI 1) (nI 0) = some (nI (a - 1)) := by decide +kernel
theorem k_keep58 (p : Nat) (hp : p < 8) (σ : vSt) : ∃ σ', f_X2_keep_58 (nI p) 600 (nI 0) σ = some σ' ∧ CP 1 0 25 (p * 16) 0 16 σ σ' := by
  obtain ⟨σ', e, c⟩ := copy_gen (q := 1) (b := 0) (q' := 25) (b' := p * 16) (N := 16) (f_X2_keep_58 (nI p)) (by
    intro n i σ hi
    rw [f_X2_keep_58.eq_2, if_neg (by rw [nI_leI (by decide) (by omega)]; omega), if_pos (ig (by omega) (by omega)), nI_mul, nI_add, if_pos (ig (by omega) (by omega)), nI_clamp (by omega), nI_clamp (by omega), nI_1 i, Nat.zero_add]) (by
    intro n σ
    rw [f_X2_keep_58.eq_2, if_pos (Int32.le_refl _)]) (Or.inl (by decide)) 600 0 σ (by decide) (by decide)
  exact ⟨σ', e, c⟩
theorem k_keep94 (p : Nat) (hp : p < 8) (σ : vSt) : ∃ σ', f_X2_keep_94 (nI p) 600 (nI 0) σ = some σ' ∧ CP 9 0 26 (p * 8) 0 8 σ σ' := by
  obtain ⟨σ', e, c⟩ := copy_gen (q := 9) (b := 0) (q' := 26) (b' := p * 8) (N := 8) (f_X2_keep_94 (nI p)) (by
    intro n i σ hi
    rw [f_X2_keep_94.eq_2, if_neg (by rw [nI_leI (by decide) (by omega)]; omega), if_neg (by rw [nI_leI (by decide) (by omega)]; omega), if_pos (ig (by omega) (by omega)), nI_mul, nI_add, if_pos (ig (by omega) (by omega)), nI_clamp (by omega), nI_clamp (by omega), nI_1 i, Nat.zero_add]) (by
    intro n σ
    rw [f_X2_keep_94.eq_2, if_pos (Int32.le_refl _)]) (Or.inl (by decide)) 600 0 σ (by decide) (by decide)
  exact ⟨σ', e, c⟩
theorem k_rest34 (p : Nat) (hp : p < 8) (σ : vSt) : ∃ σ', f_X2_restore_34 (nI p) 600 (nI 0) σ = some σ' ∧ CP 25 (p * 16) 1 0 0 16 σ σ' := by
  obtain ⟨σ', e, c⟩ := copy_gen (q := 25) (b := p * 16) (q' := 1) (b' := 0) (N := 16) (f_X2_restore_34 (nI p)) (by
    intro n i σ hi
    rw [f_X2_restore_34.eq_2, if_neg (by rw [nI_leI (by decide) (by omega)]; omega), nI_mul, nI_add, if_pos (ig (by omega) (by omega)), if_pos (ig (by omega) (by omega)), nI_clamp (by omega), nI_clamp (by omega), nI_1 i, Nat.zero_add]) (by
    intro n σ
    rw [f_X2_restore_34.eq_2, if_pos (Int32.le_refl _)]) (Or.inl (by decide)) 600 0 σ (by decide) (by decide)
  exact ⟨σ', e, c⟩
theorem k_rest70 (p : Nat) (hp : p < 8) (σ : vSt) : ∃ σ', f_X2_restore_70 (nI p) 600 (nI 0) σ = some σ' ∧ CP 26 (p * 8) 9 0 0 8 σ σ' := by
  obtain ⟨σ', e, c⟩ := copy_gen (q := 26) (b := p * 8) (q' := 9) (b' := 0) (N := 8) (f_X2_restore_70 (nI p)) (by
    intro n i σ hi
    rw [f_X2_restore_70.eq_2, if_neg (by rw [nI_leI (by decide) (by omega)]; omega), if_neg (by rw [nI_leI (by decide) (by omega)]; omega), nI_mul, nI_add, if_pos (ig (by omega) (by omega)), if_pos (ig (by omega) (by omega)), nI_clamp (by omega), nI_clamp (by omega), nI_1 i, Nat.zero_add]) (by
    intro n σ
    rw [f_X2_restore_70.eq_2, if_pos (Int32.le_refl _)]) (Or.inl (by decide)) 600 0 σ (by decide) (by decide)
  exact ⟨σ', e, c⟩
theorem CP.ne {q b q' b' N : Nat} {σ σ' : vSt} (c : CP q b q' b' 0 N σ σ') {k j : Nat} (h : k ≠ q') : gI σ' k j = gI σ k j := c.2.1 k j (fun z => h z.1)
theorem kp_get {L : List Sn} {x y : Sn} {s : Nat} (h8 : L.length ≤ 8) (h : (kp L x)[s]? = some y) : (s + 1 = (kp L x).length ∧ y = x) ∨ (s + 1 < (kp L x).length ∧ L[s + (if L.length = 8 then 1 else 0)]? = some y) := by
  unfold kp at h ⊢
  by_cases a : L.length = 8
  · rw [if_pos a] at h ⊢
    rw [if_pos a, List.length_append, List.length_tail, List.length_singleton]
    rw [List.getElem?_append] at h
    by_cases c : s < L.tail.length
    · rw [if_pos c, List.getElem?_tail] at h
      rw [List.length_tail] at c
      exact Or.inr ⟨by omega, h⟩
    · rw [if_neg c] at h
      rw [List.length_tail] at c h
      by_cases d : s - (L.length - 1) = 0
      · rw [d] at h
        exact Or.inl ⟨by omega, (Option.some.inj h).symm⟩
      · rw [List.getElem?_eq_none (by simp; omega)] at h; cases h
  · rw [if_neg a] at h ⊢
    rw [if_neg a, List.length_append, List.length_singleton]
    rw [List.getElem?_append] at h
    by_cases c : s < L.length
    · rw [if_pos c] at h
      exact Or.inr ⟨by omega, h⟩
    · rw [if_neg c] at h
      by_cases d : s - L.length = 0
      · rw [d] at h
        exact Or.inl ⟨by omega, (Option.some.inj h).symm⟩
      · rw [List.getElem?_eq_none (by simp; omega)] at h; cases h
theorem kp_len {L : List Sn} {x : Sn} (h8 : L.length ≤ 8) : (kp L x).length = min (L.length + 1) 8 := by
  unfold kp
  by_cases a : L.length = 8
  · rw [if_pos a, List.length_append, List.length_tail, List.length_singleton]; omega
  · rw [if_neg a, List.length_append, List.length_singleton]; omega
def WHi (q j : Nat) : Prop := q = 20 ∨ q = 21 ∨ q = 22 ∨ q = 25 ∨ q = 26
def WHl (q j : Nat) : Prop := q = 23 ∨ q = 24
theorem k_keep {σ : vSt} {x : Sn} {L : List Sn} (g : GD σ x.w x.h x.cnt) (m : MB σ 6 x.w x.h x.mk) (us : ∀ r, r < 8 → gI σ 9 r = x.us r) (hh : HC σ L) : ∃ σ', f_X2_keep σ = some σ' ∧ FG WHi WHl σ σ' ∧ HC σ' (kp L x) := by
  obtain ⟨n, h1, h2, h3, h4, h5⟩ := hh
  unfold f_X2_keep
  rw [h2, fm_dec n (by omega), Nat.mod_eq_of_lt h1]
  simp only [ob]
  have gd : 0 ≤ (nI n).toInt ∧ (nI n).toInt < 8 := ig (by omega) (by omega)
  rw [if_pos gd, if_pos gd, if_pos gd, if_pos gd, nI_clamp (by omega)]
  generalize hσ1 : sL (sL (sI (sI σ 21 n (gI σ 0 5)) 22 n (gI (sI σ 21 n (gI σ 0 5)) 0 6)) 23 n (gL (sI (sI σ 21 n (gI σ 0 5)) 22 n (gI (sI σ 21 n (gI σ 0 5)) 0 6)) 6 2)) 24 n (gL (sL (sI (sI σ 21 n (gI σ 0 5)) 22 n (gI (sI σ 21 n (gI σ 0 5)) 0 6)) 23 n (gL (sI (sI σ 21 n (gI σ 0 5)) 22 n (gI (sI σ 21 n (gI σ 0 5)) 0 6)) 6 2)) 6 3) = σ1
  have i1 : ∀ q j, gI σ1 q j = if q = 22 ∧ j = n then nI x.h else if q = 21 ∧ j = n then nI x.w else gI σ q j := by
    intro q j
    have t6 : gI (sI σ 21 n (gI σ 0 5)) 0 6 = nI x.h := by rw [sI_ne _ _ (Or.inl (by decide)), g.1.2.2.1]
    rw [← hσ1, sL_I, sL_I, t6, sI_if, sI_if, g.1.2.1]
  have l1 : ∀ q j, gL σ1 q j = if q = 24 ∧ j = n then gL σ 6 3 else if q = 23 ∧ j = n then gL σ 6 2 else gL σ q j := by
    intro q j
    have t3 : gL (sL (sI (sI σ 21 n (gI σ 0 5)) 22 n (gI (sI σ 21 n (gI σ 0 5)) 0 6)) 23 n (gL (sI (sI σ 21 n (gI σ 0 5)) 22 n (gI (sI σ 21 n (gI σ 0 5)) 0 6)) 6 2)) 6 3 = gL σ 6 3 := by
      rw [sL_if, if_neg (by omega)]; rfl
    rw [← hσ1, t3, sL_if, sL_if]
    rfl
  have f1 : FG WHi WHl σ σ1 := by
    refine ⟨fun q j h => ?_, fun q j h => ?_⟩
    · rw [i1, if_neg (fun z => h (by unfold WHi; omega)), if_neg (fun z => h (by unfold WHi; omega))]
    · rw [l1, if_neg (fun z => h (by unfold WHl; omega)), if_neg (fun z => h (by unfold WHl; omega))]
  clear hσ1
  obtain ⟨σ2, e2, c2⟩ := k_keep58 n h1 σ1
  rw [e2]
  simp only [ob]
  obtain ⟨σ3, e3, c3⟩ := k_keep94 n h1 σ2
  rw [e3]
  simp only [ob]
  rw [nI_add, fm_dec (n + 1) (by omega)]
  simp only [ob]
  have s3 : gI (sI σ3 20 7 (nI ((n + 1) % 8))) 20 6 = nI L.length := by
    rw [sI_ne _ _ (Or.inr (by decide)), c3.ne (by decide), c2.ne (by decide), i1, if_neg (by omega), if_neg (by omega), h3]
  rw [s3, mn8_dec L.length (by omega)]
  simp only [ob]
  have f3 : FG WHi WHl σ1 σ3 := ⟨fun q j h => by rw [c3.ne (fun z => h (by unfold WHi; omega)), c2.ne (fun z => h (by unfold WHi; omega))], fun q j _ => by unfold gL; rw [c3.2.2, c2.2.2]⟩
  have F : FG WHi WHl σ (sI (sI σ3 20 7 (nI ((n + 1) % 8))) 20 6 (nI (min (L.length + 1) 8))) := ((f1.tr f3).wI (Or.inl rfl)).wI (Or.inl rfl)
  refine ⟨_, rfl, F, (n + 1) % 8, Nat.mod_lt _ (by decide), ?_, ?_, ?_, fun s y hy => ?_⟩
  · rw [sI_ne _ _ (Or.inr (by decide)), sI_same]
  · rw [sI_same, kp_len h4]
  · rw [kp_len h4]; omega
  · have hlen := kp_len (x := x) h4
    have k4 : ∀ q j, q ≠ 20 → gI (sI (sI σ3 20 7 (nI ((n + 1) % 8))) 20 6 (nI (min (L.length + 1) 8))) q j = gI σ3 q j := fun q j hq => by
      rw [sI_ne _ _ (Or.inl hq), sI_ne _ _ (Or.inl hq)]
    have k4L : ∀ q j, gL (sI (sI σ3 20 7 (nI ((n + 1) % 8))) 20 6 (nI (min (L.length + 1) 8))) q j = gL σ1 q j := fun q j => by
      show gL σ3 q j = _
      unfold gL; rw [c3.2.2, c2.2.2]
    rcases kp_get h4 hy with ⟨a, rfl⟩ | ⟨a, c⟩
    · rw [hlen] at a
      have hp : ((n + 1) % 8 + 8 - (kp L y).length + s) % 8 = n := by rw [hlen]; omega
      rw [hp]
      refine ⟨?_, ?_, fun e => ?_, fun e => ?_, fun c hc => ?_, fun r hr => ?_⟩
      · rw [k4 _ _ (by decide), c3.ne (by decide), c2.ne (by decide), i1, if_neg (by omega), if_pos ⟨rfl, rfl⟩]
      · rw [k4 _ _ (by decide), c3.ne (by decide), c2.ne (by decide), i1, if_pos ⟨rfl, rfl⟩]
      · rw [k4L, l1, if_neg (by omega), if_pos ⟨rfl, rfl⟩]; exact m.1 e
      · rw [k4L, l1, if_pos ⟨rfl, rfl⟩]; exact m.2 e
      · rw [k4 _ _ (by decide), c3.ne (by decide), c2.1 c (Nat.zero_le _) hc, Nat.zero_add, i1, if_neg (by omega), if_neg (by omega)]
        exact g.2.2.1 c hc
      · rw [k4 _ _ (by decide), c3.1 r (Nat.zero_le _) hr, Nat.zero_add, c2.ne (by decide), i1, if_neg (by omega), if_neg (by omega)]
        exact us r hr
    · rw [hlen] at a
      have hs := h5 _ y c
      have hsl : s + (if L.length = 8 then 1 else 0) < L.length := by
        rcases Nat.lt_or_ge (s + (if L.length = 8 then 1 else 0)) L.length with z | z
        · exact z
        · rw [List.getElem?_eq_none z] at c; cases c
      have hp : ((n + 1) % 8 + 8 - (kp L x).length + s) % 8 = (n + 8 - L.length + (s + (if L.length = 8 then 1 else 0))) % 8 := by
        rw [hlen]
        by_cases z : L.length = 8
        · rw [if_pos z]; omega
        · rw [if_neg z]; omega
      have hn : (n + 8 - L.length + (s + (if L.length = 8 then 1 else 0))) % 8 ≠ n := by
        by_cases z : L.length = 8
        · rw [if_pos z] at hsl ⊢; omega
        · rw [if_neg z] at hsl ⊢; omega
      rw [hp]
      generalize (n + 8 - L.length + (s + (if L.length = 8 then 1 else 0))) % 8 = p at hs hn
      refine SLT_same hs ?_ ?_ ?_ ?_ (fun c hc => ?_) (fun r hr => ?_)
      · rw [k4 _ _ (by decide), c3.ne (by decide), c2.ne (by decide), i1, if_neg (by omega), if_neg (by omega)]
      · rw [k4 _ _ (by decide), c3.ne (by decide), c2.ne (by decide), i1, if_neg (by omega), if_neg (by omega)]
      · rw [k4L, l1, if_neg (by omega), if_neg (by omega)]
      · rw [k4L, l1, if_neg (by omega), if_neg (by omega)]
      · rw [k4 _ _ (by decide), c3.ne (by decide), c2.2.1 25 _ (by omega), i1, if_neg (by omega), if_neg (by omega)]
      · rw [k4 _ _ (by decide), c3.2.1 26 _ (by omega), c2.ne (by decide), i1, if_neg (by omega), if_neg (by omega)]
theorem GD.row1 {σ σ' : vSt} {w h : Nat} {cnt cnt' : Nat → Int32} (g : GD σ w h cnt) (hI : ∀ q j, q < 6 → q ≠ 1 → gI σ' q j = gI σ q j) (hL : ∀ q j, q < 6 → gL σ' q j = gL σ q j) (h1 : ∀ k, k < 16 → gI σ' 1 k = cnt' k) : GD σ' w h cnt' := by
  obtain ⟨⟨hd, a1, a2, a3, a4, a5⟩, ⟨m1, m2⟩, g3, g4⟩ := g
  refine ⟨⟨hd, ?_, ?_, ?_, ?_, ?_⟩, ⟨fun c hc e => ?_, fun k hk e => ?_⟩, h1, fun e he s hs => ?_⟩
  · rw [hI 0 5 (by decide) (by decide), a1]
  · rw [hI 0 6 (by decide) (by decide), a2]
  · rw [hI 0 7 (by decide) (by decide), a3]
  · rw [hI 0 8 (by decide) (by decide), a4]
  · rw [hI 0 9 (by decide) (by decide), a5]
  · rw [hL 2 c (by decide)]; exact m1 c hc e
  · rw [hL 3 k (by decide)]; exact m2 k hk e
  · rw [hI 5 _ (by decide) (by decide), hI 4 _ (by decide) (by decide)]; exact g4 e he s hs
def WUi (q j : Nat) : Prop := q = 0 ∨ q = 1 ∨ q = 4 ∨ q = 5 ∨ q = 6 ∨ q = 7 ∨ q = 9 ∨ (q = 20 ∧ (j = 6 ∨ j = 7))
def WUl (q j : Nat) : Prop := q = 2 ∨ q = 3 ∨ q = 6
theorem k_restore {σ : vSt} {y : Sn} {L : List Sn} (hh : HC σ L) (hpos : 0 < L.length) (hy : L[L.length - 1]? = some y) (ok : okS y) : ∃ σ', f_X2_restore σ = some σ' ∧ FG WUi WUl σ σ' ∧ GD σ' y.w y.h y.cnt ∧ SY σ' 6 y.w y.h y.cnt y.mk ∧ (∀ r, r < 8 → gI σ' 9 r = y.us r) ∧ HC σ' (L.take (L.length - 1)) := by
  obtain ⟨n, h1, h2, h3, h4, h5⟩ := hh
  have hs := h5 _ y hy
  have hp : (n + 8 - L.length + (L.length - 1)) % 8 = (n + 7) % 8 := by omega
  rw [hp] at hs
  have hp8 : (n + 7) % 8 < 8 := Nat.mod_lt _ (by decide)
  unfold f_X2_restore
  rw [h2, fd_dec n (by omega)]
  simp only [ob]
  have gd : 0 ≤ (nI ((n + 7) % 8)).toInt ∧ (nI ((n + 7) % 8)).toInt < 8 := ig (by omega) (by omega)
  rw [if_pos gd, if_pos gd, nI_clamp (by omega)]
  obtain ⟨s21, s22, s23, s24, s25, s26⟩ := hs
  rw [s21, s22]
  obtain ⟨σ1, e1, f1, g1⟩ := k_lay σ ok.1
  rw [e1]
  simp only [ob]
  obtain ⟨σ2, e2, c2⟩ := k_rest34 _ hp8 σ1
  rw [e2]
  simp only [ob]
  obtain ⟨σ3, e3, c3⟩ := k_rest70 _ hp8 σ2
  rw [e3]
  simp only [ob]
  rw [if_pos gd, if_pos gd]
  have F3 : FG WUi WUl σ σ3 := by
    refine (f1.mono (fun q j x => by rcases x with x | x | x | x <;> (unfold WUi; omega)) (fun q j x => by rcases x with x | x <;> (unfold WUl; omega))).tr ⟨fun q j h => ?_, fun q j _ => by unfold gL; rw [c3.2.2, c2.2.2]⟩
    rw [c3.ne (fun z => h (by unfold WUi; omega)), c2.ne (fun z => h (by unfold WUi; omega))]
  have g3 : GD σ3 y.w y.h y.cnt := by
    refine g1.row1 (fun q j a b => by rw [c3.ne (by omega), c2.ne b]) (fun q j _ => by unfold gL; rw [c3.2.2, c2.2.2]) (fun k hk => ?_)
    have := c2.1 k (Nat.zero_le _) hk
    rw [Nat.zero_add] at this
    rw [c3.ne (by decide), this, f1.1 25 _ (fun z => by rcases z with z | z | z | z <;> omega)]
    exact s25 k hk
  have u3 : ∀ r, r < 8 → gI σ3 9 r = y.us r := by
    intro r hr
    have := c3.1 r (Nat.zero_le _) hr
    rw [Nat.zero_add] at this
    rw [this, c2.ne (by decide), f1.1 26 _ (fun z => by rcases z with z | z | z | z <;> omega)]
    exact s26 r hr
  obtain ⟨σ4, e4, f4, s4⟩ := k_begin (b := 6) (mk := y.mk) (by decide) g3 (l1 := gL σ3 23 ((n + 7) % 8)) (l3 := gL σ3 24 ((n + 7) % 8)) (fun e => by rw [F3.2 23 _ (fun z => by rcases z with z | z | z <;> omega)]; exact s23 e) (fun e => by rw [F3.2 24 _ (fun z => by rcases z with z | z | z <;> omega)]; exact s24 e)
  rw [e4]
  simp only [ob]
  have z6 : gI (sI σ4 20 7 (nI ((n + 7) % 8))) 20 6 = nI L.length := by
    rw [sI_ne _ _ (Or.inr (by decide)), f4.1 20 6 (by decide) (by decide)]
    rw [c3.ne (by decide), c2.ne (by decide), f1.1 20 6 (fun z => by rcases z with z | z | z | z <;> omega), h3]
  rw [z6, mx8_dec L.length (by omega)]
  simp only [ob]
  have F4 : FG WUi WUl σ σ4 := F3.tr (f4.g.mono (fun q j x => by rcases x with x | x <;> (unfold WUi; omega)) (fun q j x => Or.inr (Or.inr x)))
  have k5 : ∀ q j, q ≠ 20 → gI (sI (sI σ4 20 7 (nI ((n + 7) % 8))) 20 6 (nI (L.length - 1))) q j = gI σ4 q j := fun q j hq => by
    rw [sI_ne _ _ (Or.inl hq), sI_ne _ _ (Or.inl hq)]
  refine ⟨_, rfl, (F4.wI (by unfold WUi; omega)).wI (by unfold WUi; omega), ?_, ?_, ?_, (n + 7) % 8, hp8, ?_, ?_, ?_, fun s z hz => ?_⟩
  · exact (g3.fb (by decide) f4).row1 (fun q j a _ => k5 q j (by omega)) (fun q j _ => rfl) (fun k hk => by rw [k5 _ _ (by decide)]; exact (g3.fb (by decide) f4).2.2.1 k hk)
  · exact SY_of s4 (fun j _ _ _ => k5 6 j (by decide)) (fun j _ => k5 7 j (by decide)) (fun j _ => rfl)
  · intro r hr
    rw [k5 _ _ (by decide), f4.1 9 r (by decide) (by decide)]; exact u3 r hr
  · rw [sI_ne _ _ (Or.inr (by decide)), sI_same]
  · rw [sI_same, List.length_take]; congr 1; omega
  · rw [List.length_take]; omega
  · have hlt : (L.take (L.length - 1)).length = L.length - 1 := by rw [List.length_take]; omega
    have hsl : s < L.length - 1 := by
      rcases Nat.lt_or_ge s (L.length - 1) with q | q
      · exact q
      · rw [List.getElem?_eq_none (by omega)] at hz; cases hz
    rw [List.getElem?_take_of_lt hsl] at hz
    have hh5 := h5 s z hz
    have hpp : ((n + 7) % 8 + 8 - (L.take (L.length - 1)).length + s) % 8 = (n + 8 - L.length + s) % 8 := by rw [hlt]; omega
    rw [hpp]
    have kI : ∀ q j, 21 ≤ q → q ≤ 26 → gI (sI (sI σ4 20 7 (nI ((n + 7) % 8))) 20 6 (nI (L.length - 1))) q j = gI σ q j := fun q j a b => by
      rw [k5 _ _ (by omega), F4.1 q j (fun z => by unfold WUi at z; omega)]
    have kL : ∀ q j, 21 ≤ q → q ≤ 26 → gL (sI (sI σ4 20 7 (nI ((n + 7) % 8))) 20 6 (nI (L.length - 1))) q j = gL σ q j := fun q j a b => by
      show gL σ4 q j = _
      exact F4.2 q j (fun z => by unfold WUl at z; omega)
    exact SLT_same hh5 (kI _ _ (by decide) (by decide)) (kI _ _ (by decide) (by decide)) (kL _ _ (by decide) (by decide)) (kL _ _ (by decide) (by decide)) (fun c _ => kI _ _ (by decide) (by decide)) (fun c _ => kI _ _ (by decide) (by decide))
