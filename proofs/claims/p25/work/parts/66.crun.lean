/-! THE CLASS: the search, whole -/
theorem k_run34 {w h : Nat} {cnt : Nat → Int32} {l : Nat} (hl : l < 100) : ∀ (n m : Nat) (S : List (Nat → Nat)) (k f : Nat) (g : Nat → Nat) (σ : vSt), GD σ w h cnt → SC w h σ S → f ≤ k → k ≤ 200 → 200 < n + k → 200 < m + k → gI σ 15 3 = nI S.length → gI σ 15 4 = nI f → gI σ 15 5 = nI k → (f ≠ 0 → ∀ e, bt (gL σ 15 6) e = decide (e < gE w h ∧ g e = 1)) → ∃ (σ' : vSt) (wl : Nat), f_X3_run_34 (nI l) n (nI k) σ = some σ' ∧ FS σ σ' ∧ gI σ' 15 5 = nI (sr w h cnt l m S k f g).1 ∧ gI σ' 15 4 = nI (sr w h cnt l m S k f g).2.1 ∧ gI σ' 15 3 = nI wl ∧ wl ≤ 41 ∧ (sr w h cnt l m S k f g).2.1 ≤ 200 ∧ ((wl = 0 ∨ l ≤ (sr w h cnt l m S k f g).2.1) → (sr w h cnt l m S k f g).2.2.1 = 0) ∧ (¬ (wl = 0 ∨ l ≤ (sr w h cnt l m S k f g).2.1) → (sr w h cnt l m S k f g).2.2.1 = 1) ∧ ((sr w h cnt l m S k f g).2.1 ≠ 0 → ∀ e, bt (gL σ' 15 6) e = decide (e < gE w h ∧ (sr w h cnt l m S k f g).2.2.2 e = 1)) := by
  intro n
  induction n with
  | zero => intro m S k f g σ _ _ h1 h2 h3; omega
  | succ n ih =>
    intro m S k f g σ gd hS hfk hk hn hm h3 h4 h5 h6
    obtain ⟨m, rfl⟩ : ∃ m', m = m' + 1 := ⟨m - 1, by omega⟩
    have hd := gd.1.1
    rw [f_X3_run_34.eq_2]
    cases S with
    | nil =>
      have hX : sr w h cnt l (m + 1) [] k f g = (k, f, 0, g) := rfl
      rw [hX]
      refine ⟨σ, 0, ?_, FG.rf, h5, h4, h3, by decide, by show f ≤ 200; omega, fun _ => rfl, fun q => absurd (Or.inl rfl) q, h6⟩
      by_cases q : nI 200 ≤ nI k
      · rw [if_pos q]
      · rw [if_neg q, h3, if_pos (show nI ([] : List (Nat → Nat)).length ≤ nI 0 from Int32.le_refl _)]
    | cons a S =>
      obtain ⟨s1, s2, s3, s4⟩ := hS
      have hlen : (a :: S).length = S.length + 1 := List.length_cons
      rw [hlen] at h3
      by_cases c1 : l ≤ f
      · have hX : sr w h cnt l (m + 1) (a :: S) k f g = (k, f, 0, g) := if_pos c1
        rw [hX]
        refine ⟨σ, S.length + 1, ?_, FG.rf, h5, h4, h3, by omega, by show f ≤ 200; omega, fun _ => rfl, fun q => absurd (Or.inr c1) q, h6⟩
        by_cases q : nI 200 ≤ nI k
        · rw [if_pos q]
        · rw [if_neg q, h3, if_neg (by rw [nI_leI (by omega) (by decide)]; omega), h4, if_pos ((nI_leI (by omega) (by omega)).mpr c1)]
      · by_cases c2 : k = 200
        · have hX : sr w h cnt l (m + 1) (a :: S) k f g = (k, f, 1, g) := (if_neg c1).trans (if_pos c2)
          rw [hX]
          refine ⟨σ, S.length + 1, ?_, FG.rf, h5, h4, h3, by omega, by show f ≤ 200; omega, fun q => ?_, fun _ => rfl, h6⟩
          · rw [if_pos (by rw [c2]; exact Int32.le_refl _)]
          · rcases q with q | q
            · omega
            · exact absurd q c1
        · rw [if_neg (by rw [nI_leI (by decide) (by omega)]; omega), h3, if_neg (by rw [nI_leI (by omega) (by decide)]; omega), h4, if_neg (by rw [nI_leI (by omega) (by omega)]; exact c1)]
          generalize hσa : sI (sI σ 15 5 (gI σ 15 5 + nI 1)) 15 3 (gI (sI σ 15 5 (gI σ 15 5 + nI 1)) 15 3 - nI 1) = σa
          have a3 : gI σa 15 3 = nI S.length := by
            rw [← hσa, sI_same, sI_ne _ _ (Or.inr (by decide)), h3, dI_0, dI_s]
          have a4 : gI σa 15 4 = nI f := by
            rw [← hσa, sI_ne _ _ (Or.inr (by decide)), sI_ne _ _ (Or.inr (by decide)), h4]
          have a5 : gI σa 15 5 = nI (k + 1) := by
            rw [← hσa, sI_ne _ _ (Or.inr (by decide)), sI_same, h5, nI_add]
          have aF : FS σ σa := by
            rw [← hσa]; exact (FG.rf.wI ⟨by decide, by decide⟩).wI ⟨by decide, by decide⟩
          have aL : ∀ q j, gL σa q j = gL σ q j := by
            intro q j; rw [← hσa]; rfl
          clear hσa
          rw [a3, if_pos (ig (by omega) (by omega)), if_pos (ig (by omega) (by omega)), nI_clamp (by omega)]
          have ga : GD σa w h cnt := gd.fg aF (fun q j x => by have := x.1; omega) (fun q j x => by rcases x with x | x | x | x <;> omega)
          obtain ⟨σb, eb, fb, sb⟩ := k_begin (b := 16) (mk := a) (by decide) ga (l1 := gL σa 18 S.length) (l3 := gL σa 19 S.length) (fun e => by rw [aL]; exact s1 e) (fun e => by rw [aL]; exact s2 e)
          rw [eb]
          simp only [ob]
          have gb := ga.fb (by decide) fb
          obtain ⟨σc, ec, fc, sc⟩ := k_settle (b := 16) (by decide) gb sb
          rw [ec]
          simp only [ob]
          have gc := gb.fb (by decide) fc
          have cI : ∀ j, gI σc 15 j = gI σa 15 j := fun j => by rw [fc.1 15 j (by decide) (by decide), fb.1 15 j (by decide) (by decide)]
          have cL : ∀ q j, q ≠ 16 → gL σc q j = gL σ q j := fun q j hq => by rw [fc.2.1 q j hq, fb.2.1 q j hq, aL]
          obtain ⟨σd, ed, fd, d5, d4, dd⟩ := k_goOn hd sc (f := f) (n := S.length) (by rw [cI, a4]) (by rw [cI, a3]) (by omega) (by omega)
          rw [ed]
          simp only [ob]
          rw [nI_1 k]
          have FD : FS σ σd := ((aF.tr (FS_16 fb)).tr (FS_16 fc)).tr fd
          have gdd : GD σd w h cnt := gd.fg FD (fun q j x => by have := x.1; omega) (fun q j x => by rcases x with x | x | x | x <;> omega)
          have hS1 := ndS_1 w h cnt (clo w h cnt 41 a)
          rcases dd with ⟨q1, q2, q3, q4⟩ | ⟨q1, q2, q3, q4, q5, q6, q7, q8⟩
          · have hX : sr w h cnt l (m + 1) (a :: S) k f g = sr w h cnt l m S (k + 1) (f + ndS w h cnt (clo w h cnt 41 a)) (if f = 0 ∧ ndS w h cnt (clo w h cnt 41 a) = 1 then clo w h cnt 41 a else g) := ((if_neg c1).trans (if_neg c2)).trans (if_pos q1)
            rw [hX]
            obtain ⟨σ', wl, e', f', r⟩ := ih m S (k + 1) (f + ndS w h cnt (clo w h cnt 41 a)) (if f = 0 ∧ ndS w h cnt (clo w h cnt 41 a) = 1 then clo w h cnt 41 a else g) σd gdd (SC_same s4 (fun j _ => ⟨by rw [(q3 j).1, cL _ _ (by decide)], by rw [(q3 j).2, cL _ _ (by decide)]⟩)) (by omega) (by omega) (by omega) (by omega) q2 d4 (by rw [d5, cI, a5]) (fun hne => by
              rcases q4 with ⟨z1, z2, z3⟩ | ⟨z1, z2⟩
              · rw [if_pos ⟨z1, z2⟩]; exact z3
              · rw [if_neg z1]
                have hf0 : f ≠ 0 := by
                  intro z
                  apply z1
                  exact ⟨z, by omega⟩
                intro e
                rw [z2, cL _ _ (by decide)]
                exact h6 hf0 e)
            exact ⟨σ', wl, e', FD.tr f', r⟩
          · have hX : sr w h cnt l (m + 1) (a :: S) k f g = sr w h cnt l m (um (clo w h cnt 41 a) (ndV w h cnt (clo w h cnt 41 a)) 1 :: um (clo w h cnt 41 a) (ndV w h cnt (clo w h cnt 41 a)) 2 :: S) (k + 1) f g := ((if_neg c1).trans (if_neg c2)).trans (if_neg q1)
            rw [hX]
            obtain ⟨z1, z2, z3⟩ := ndV_lt q1
            have o1 := opn_clo (cnt := cnt) hd 41 a
            have o2 := opn_um (v := 1) z1 z2 (by decide)
            have o3 := opn_um (v := 2) z1 z2 (by decide)
            have hl2 : (um (clo w h cnt 41 a) (ndV w h cnt (clo w h cnt 41 a)) 2 :: S).length = S.length + 1 := List.length_cons
            obtain ⟨σ', wl, e', f', r⟩ := ih m (um (clo w h cnt 41 a) (ndV w h cnt (clo w h cnt 41 a)) 1 :: um (clo w h cnt 41 a) (ndV w h cnt (clo w h cnt 41 a)) 2 :: S) (k + 1) f g σd gdd (by
              refine ⟨?_, ?_, ?_, q5, q6, by omega, SC_same s4 (fun j hj => ⟨by rw [(q4 j hj).1, cL _ _ (by decide)], by rw [(q4 j hj).2, cL _ _ (by decide)]⟩)⟩
              · rw [hl2]; exact q7
              · rw [hl2]; exact q8
              · rw [hl2]; omega) (by omega) (by omega) (by omega) (by omega) (by rw [q2, List.length_cons, hl2]) (by rw [d4, z3, Nat.add_zero]) (by rw [d5, cI, a5]) (fun hne e => by rw [q3, cL _ _ (by decide)]; exact h6 hne e)
            exact ⟨σ', wl, e', FD.tr f', r⟩
theorem k_run {σ : vSt} {w h : Nat} {cnt : Nat → Int32} {mk : Nat → Nat} (g : GD σ w h cnt) (m : MB σ 6 w h mk) {l : Nat} (hl : l < 100) : ∃ σ', f_X3_run (nI l) σ = some σ' ∧ FS σ σ' ∧ gI σ' 15 5 = nI (SR w h cnt mk l).1 ∧ gI σ' 15 4 = nI (SR w h cnt mk l).2.1 ∧ gI σ' 15 7 = nI (SR w h cnt mk l).2.2.1 ∧ (SR w h cnt mk l).2.1 ≤ 200 ∧ ((SR w h cnt mk l).2.1 ≠ 0 → ∀ e, bt (gL σ' 15 6) e = decide (e < gE w h ∧ (SR w h cnt mk l).2.2.2 e = 1)) := by
  have hd := g.1.1
  unfold f_X3_run
  generalize hσ0 : sL (sI (sI (sI σ 15 3 (nI 0)) 15 4 (nI 0)) 15 5 (nI 0)) 15 6 (0 : Int64) = σ0
  have z3 : gI σ0 15 3 = nI 0 := by
    rw [← hσ0, sL_I, sI_ne _ _ (Or.inr (by decide)), sI_ne _ _ (Or.inr (by decide)), sI_same]
  have z4 : gI σ0 15 4 = nI 0 := by
    rw [← hσ0, sL_I, sI_ne _ _ (Or.inr (by decide)), sI_same]
  have z5 : gI σ0 15 5 = nI 0 := by
    rw [← hσ0, sL_I, sI_same]
  have zF : FS σ σ0 := by
    rw [← hσ0]; exact (((FG.rf.wI ⟨by decide, by decide⟩).wI ⟨by decide, by decide⟩).wI ⟨by decide, by decide⟩).wL (Or.inl rfl)
  clear hσ0
  rw [k_push (n := 0) z3 (by decide)]
  simp only [ob]
  generalize hσ1 : sI (sL (sL σ0 18 0 (gL σ0 6 2)) 19 0 (gL σ0 6 3)) 15 3 (nI (0 + 1)) = σ1
  have y3 : gI σ1 15 3 = nI 1 := by rw [← hσ1, sI_same]
  have y4 : gI σ1 15 4 = nI 0 := by rw [← hσ1, sI_ne _ _ (Or.inr (by decide))]; exact z4
  have y5 : gI σ1 15 5 = nI 0 := by rw [← hσ1, sI_ne _ _ (Or.inr (by decide))]; exact z5
  have yF : FS σ0 σ1 := by
    rw [← hσ1]; exact ((FG.rf.wL (Or.inr (Or.inr (Or.inl rfl)))).wL (Or.inr (Or.inr (Or.inr rfl)))).wI ⟨by decide, by decide⟩
  have b18 : gL σ1 18 0 = gL σ 6 2 := by
    rw [← hσ1, sI_L_g, sL_if, if_neg (by decide), sL_if, if_pos (by decide)]
    exact zF.2 6 2 (fun x => by rcases x with x | x | x | x <;> omega)
  have b19 : gL σ1 19 0 = gL σ 6 3 := by
    rw [← hσ1, sI_L_g, sL_if, if_pos (by decide)]
    exact zF.2 6 3 (fun x => by rcases x with x | x | x | x <;> omega)
  clear hσ1
  have F1 : FS σ σ1 := zF.tr yF
  have g1 : GD σ1 w h cnt := g.fg F1 (fun q j x => by have := x.1; omega) (fun q j x => by rcases x with x | x | x | x <;> omega)
  obtain ⟨σ2, wl, e2, f2, r5, r4, r3, rw41, r200, rz, ro, r6⟩ := k_run34 (w := w) (h := h) (cnt := cnt) hl 600 201 [mk] 0 0 mk σ1 g1 ⟨fun e => by show bt (gL σ1 18 0) e = _; rw [b18]; exact m.1 e, fun e => by show bt (gL σ1 19 0) e = _; rw [b19]; exact m.2 e, by have := opn_le hd mk; show opn w h mk + 0 ≤ 40; omega, trivial⟩ (Nat.le_refl _) (by decide) (by decide) (by decide) y3 y4 y5 (fun q => absurd rfl q)
  rw [e2]
  simp only [ob]
  have hSR : SR w h cnt mk l = sr w h cnt l 201 [mk] 0 0 mk := rfl
  rw [hSR]
  generalize sr w h cnt l 201 [mk] 0 0 mk = X at r5 r4 r200 rz ro r6 ⊢
  have F2 : FS σ σ2 := F1.tr f2
  have fin : ∀ v : Nat, v = X.2.2.1 → ∃ σ', some (sI σ2 15 7 (nI v)) = some σ' ∧ FS σ σ' ∧ gI σ' 15 5 = nI X.1 ∧ gI σ' 15 4 = nI X.2.1 ∧ gI σ' 15 7 = nI X.2.2.1 ∧ X.2.1 ≤ 200 ∧ (X.2.1 ≠ 0 → ∀ e, bt (gL σ' 15 6) e = decide (e < gE w h ∧ X.2.2.2 e = 1)) := by
    intro v hv
    refine ⟨_, rfl, F2.wI ⟨by decide, by decide⟩, ?_, ?_, ?_, r200, r6⟩
    · rw [sI_ne _ _ (Or.inr (by decide))]; exact r5
    · rw [sI_ne _ _ (Or.inr (by decide))]; exact r4
    · rw [sI_same, hv]
  rw [r3, r4]
  by_cases q1 : wl = 0
  · rw [if_pos (by rw [q1]; exact Int32.le_refl _)]
    exact fin 0 (rz (Or.inl q1)).symm
  · rw [if_neg (by rw [nI_leI (by omega) (by decide)]; omega)]
    by_cases q2 : l ≤ X.2.1
    · rw [if_pos ((nI_leI (by omega) (by omega)).mpr q2)]
      exact fin 0 (rz (Or.inr q2)).symm
    · rw [if_neg (by rw [nI_leI (by omega) (by omega)]; exact q2)]
      exact fin 1 (ro (fun z => by rcases z with z | z; exact q1 z; exact q2 z)).symm
