/-! BOTH SIDES: set puzzle, what is told of the grid -/
theorem k_set56 {C : Nat} (hC : C ≤ 16) : ∀ (n i : Nat) (σ : vSt), i ≤ C → C < i + n → gI σ 0 7 = nI C → ∃ σ', f_X6_setPuzzle_56 n (nI i) σ = some σ' ∧ Fz (fun q _ => q = 1) σ σ' ∧ (∀ j, i ≤ j → j < C → gI σ' 1 j = gI σ 29 j) ∧ ∀ j, j < i ∨ C ≤ j → gI σ' 1 j = gI σ 1 j := by
  intro n
  induction n with
  | zero => intro i σ h1 h2; omega
  | succ n ih =>
    intro i σ h1 h2 h7
    rw [f_X6_setPuzzle_56.eq_2, h7]
    by_cases hi : C ≤ i
    · rw [if_pos ((nI_leI (by omega) (by omega)).mpr hi)]
      exact ⟨σ, rfl, Fz.rf, fun j a b => by omega, fun j _ => rfl⟩
    · rw [if_neg (by rw [nI_leI (by omega) (by omega)]; exact hi), if_pos (ig (by omega) (by omega)), if_pos (ig (by omega) (by omega)), nI_clamp (by omega), nI_1 i]
      obtain ⟨σ', e1, f1, z1, z2⟩ := ih (i + 1) (sI σ 1 i (gI σ 29 i)) (by omega) (by omega) (by rw [sI_ne _ _ (Or.inl (by decide))]; exact h7)
      have f0 : Fz (fun q _ => q = 1) σ (sI σ 1 i (gI σ 29 i)) := Fz.wr (W := fun q _ => q = 1) Fz.rf rfl
      refine ⟨σ', e1, f0.tr f1, fun j a b => ?_, fun j a => ?_⟩
      · by_cases q : j = i
        · rw [q, z2 i (by omega), sI_same]
        · rw [z1 j (by omega) b, sI_ne _ _ (Or.inl (by decide))]
      · rw [z2 j (by omega), sI_ne _ _ (Or.inr (by omega))]
theorem s_setPuzzle : Stp_3 Rl := by
  intro σ τ _ _ _ ⟨x, L, T, c, r, o1, o2⟩
  obtain ⟨τ', hm⟩ := m_setPuzzle r o2.ne (fun w h a b d e => ⟨a, by omega, d, by omega⟩)
  obtain ⟨τ9, _, _, hr⟩ := m_reads r.2.2.2 o2.ne
  unfold f_X6_setPuzzle
  obtain ⟨σ1, f1, ⟨q, a1, a2⟩ | ⟨w, h, cs, a1, w4, h4, a2, a3, a4, ac⟩⟩ := k_read c.2.2.2.2
  · rw [a2]
    simp only [ob]
    have h40 := c.2.2.2.2.2.1
    have hq : q ≤ T.length := by
      rcases hr with ⟨q', b1, b2, _⟩ | ⟨w, h, cs, b1, _⟩
      · rw [a1] at b1; have := Sum.inr.inj b1; omega
      · rw [a1] at b1; cases b1
    rw [if_neg (nI_nem1 (by omega))]
    rcases hm with ⟨p, b1, b2, b3⟩ | ⟨w, h, cs, b1, _⟩
    · exact ⟨-3, σ1, τ', rfl, b2, x, L, T, c.fc f1, b3, o1, o2⟩
    · rw [a1] at b1; cases b1
  · rw [a2]
    simp only [ob]
    rw [if_pos trivial]
    rcases hm with ⟨p, b1, _⟩ | ⟨w', h', cs', b1, b2, b3⟩
    · rw [a1] at b1; cases b1
    · rw [a1] at b1
      have hj := Sum.inl.inj b1
      obtain ⟨j1, hj⟩ := Prod.mk.inj hj
      obtain ⟨j2, j3⟩ := Prod.mk.inj hj
      subst j1; subst j2; subst j3
      have hd : dim w h := b3.2.1.1
      have h16 := gC_16 hd
      have hlen : cs.length = h * w := by
        rcases hr with ⟨q', d1, _⟩ | ⟨w2, h2, cs2, d1, _, _, _, _, _, _, _, d2, _⟩
        · rw [a1] at d1; cases d1
        · rw [a1] at d1
          have hj := Sum.inl.inj d1
          obtain ⟨j1, hj⟩ := Prod.mk.inj hj
          obtain ⟨j2, j3⟩ := Prod.mk.inj hj
          subst j1; subst j2; subst j3
          exact d2
      obtain ⟨σ2, e2, c2, f2⟩ := (c.fc f1).keep
      rw [e2]
      simp only [ob]
      rw [f2.1 27 3 (fun z => by unfold WHi at z; omega), f2.1 27 4 (fun z => by unfold WHi at z; omega), a3, a4]
      obtain ⟨σ3, e3, f3, g3⟩ := k_lay σ2 hd
      rw [e3]
      simp only [ob]
      obtain ⟨σ4, e4, f4, z1, z2⟩ := k_set56 h16 600 0 σ3 (Nat.zero_le _) (by omega) g3.1.2.2.2.1
      rw [e4]
      simp only [ob]
      have hL4 : ∀ q j, gL σ4 q j = gL σ3 q j := fun q j => by unfold gL; rw [f4.2]
      have g4 : GD σ4 w h (pzS w h cs).cnt := by
        refine g3.row1 (fun q j _ hq => f4.1 q j hq) (fun q j _ => hL4 q j) (fun k hk => ?_)
        show _ = if gC w h ≤ k then -1 else txV cs k
        by_cases q : gC w h ≤ k
        · rw [if_pos q, z2 k (Or.inr q)]; exact g3.2.2.1 k hk
        · rw [if_neg q, z1 k (Nat.zero_le _) (by omega), f3.1 29 k (fun z => by unfold WGrI at z; omega), f2.1 29 k (fun z => by unfold WHi at z; omega)]
          refine ac k _ (tx_get ?_)
          rw [hlen, Nat.mul_comm]; unfold gC at q; omega
      have F4 : ∀ q j, 9 ≤ q → gI σ4 q j = gI σ2 q j := fun q j hq => by
        rw [f4.1 q j (show ¬ q = 1 by omega), f3.1 q j (fun z => by unfold WGrI at z; omega)]
      have F4L : ∀ q j, 9 ≤ q → gL σ4 q j = gL σ2 q j := fun q j hq => by
        rw [hL4, f3.2 q j (fun z => by unfold WGrL at z; omega)]
      obtain ⟨σ5, e5, c5⟩ := k_clean (L := kp L x) (T := T) g4 (c2.2.2.2.1.fg (fun q j a b => F4 q j (by omega)) (fun q j a b => F4L q j (by omega))) (TC_fg c2.2.2.2.2 (fun q j z => F4 q j (by omega))) (fun σ22 => some ((gI σ22 0 9), σ22))
      rw [e5]
      exact ⟨nI (gE w h), σ5, τ', by rw [c5.1.1.2.2.2.2.2]; rfl, b2, pzS w h cs, kp L x, T, c5, b3, o1.kp r.2.2.1.2.1 r.2.1, o2⟩
theorem s_countOf : Stp_10 Rl := by
  intro σ τ a _ _ ⟨x, L, T, c, r, o1, o2⟩
  have h16 := gC_16 r.2.1.1
  unfold f_X6_countOf
  rcases m_countOf r a with ⟨k, hk, rfl, e2⟩ | ⟨hn, e2⟩
  · rw [k_hasCell c.1.1 hk]
    simp only [ob]
    rw [if_neg (by decide), if_pos (ig (by omega) (by omega)), nI_clamp (by omega), c.1.2.2.1 k (by omega)]
    exact ⟨_, rfl, e2, x, L, T, c, r, o1, o2⟩
  · rcases k_hasCellG c.1.1 a with ⟨k, hk, rfl, e1⟩ | ⟨_, e1⟩
    · exact absurd rfl (hn k hk)
    · rw [e1]
      simp only [ob]
      rw [if_pos trivial]
      exact ⟨_, rfl, e2, x, L, T, c, r, o1, o2⟩
theorem s_edge : Stp_11 Rl := by
  intro σ τ a _ _ ⟨x, L, T, c, r, o1, o2⟩
  unfold f_X6_edge
  rcases k_hasEdge c.1.1 a with ⟨k, hk, rfl, e1⟩ | ⟨hn, e1⟩
  · rw [e1]
    simp only [ob]
    rw [if_neg (by decide), k_markOf r.2.1.1 c.2.1.1 hk (r.2.1.2.1 k)]
    simp only [ob]
    rcases m_edge r (nI k) with ⟨k2, hk2, e, e2⟩ | ⟨hn, _⟩
    · have h40 := gE_40 r.2.1.1
      have := nI_inj (by omega) (by omega) e
      subst this
      exact ⟨_, rfl, e2, x, L, T, c, r, o1, o2⟩
    · exact absurd rfl (hn k hk)
  · rw [e1]
    simp only [ob]
    rw [if_pos trivial]
    rcases m_edge r a with ⟨k2, hk2, e, e2⟩ | ⟨_, e2⟩
    · exact absurd e (hn k2 hk2)
    · exact ⟨_, rfl, e2, x, L, T, c, r, o1, o2⟩
theorem bt_m1s (x : Int64) (i : Nat) (hi : i < 64) : bt (x - 1) i = !bt (-x) i := by
  show (x.toBitVec - 1#64).getLsbD i = !(-x.toBitVec).getLsbD i
  have h : x.toBitVec - 1#64 = ~~~(-x.toBitVec) := by
    exact (BitVec.not_neg _).symm
  rw [h, BitVec.getLsbD_not]
  simp [hi]
theorem bt_neg (x : Int64) (i : Nat) : bt (-x) i = (bt x i ^^ (decide (i < 64) && decide (∃ j, j < i ∧ bt x j = true))) := by
  show (-x.toBitVec).getLsbD i = _
  rw [BitVec.getLsbD_neg]
  simp [bt]
  congr
theorem bt_drop {x : Int64} {m : Nat} (hm : bt x m = true) (hl : ∀ j, j < m → bt x j = false) (i : Nat) : bt (x &&& (x - 1)) i = true ↔ bt x i = true ∧ i ≠ m := by
  rw [bt_and]
  by_cases h64 : i < 64
  · rw [bt_m1s x i h64, bt_neg]
    by_cases h : i = m
    · subst h
      have h2 : decide (∃ j, j < i ∧ bt x j = true) = false := decide_eq_false (fun ⟨j, hj, hb⟩ => by rw [hl j hj] at hb; cases hb)
      rw [hm, h2]; simp
    · by_cases h2 : i < m
      · rw [hl i h2]; simp
      · have h4 : decide (∃ j, j < i ∧ bt x j = true) = true := decide_eq_true ⟨m, by omega, hm⟩
        rw [h4]
        cases bt x i <;> simp [h, h64]
  · rw [bt_ge x (by omega)]; simp
theorem k_ea67 {k : Nat} (hk : k < 2 ^ 31) : ∀ (Ls : List Nat) (n i : Nat) (v : Int64), Ls.Pairwise (fun a b => a < b) → (∀ e, bt v e = true ↔ e ∈ Ls) → i ≤ k → Ls.length < n → ∃ v', f_X6_edgeAt_67 (nI k) n v (nI i) = some v' ∧ ∀ e, bt v' e = true ↔ e ∈ Ls.drop (k - i)
  | [], n, i, v, _, hv, hik, hn => by
    obtain ⟨n, rfl⟩ : ∃ n', n = n' + 1 := ⟨n - 1, by simp at hn; omega⟩
    have hz : v = 0 := bt_eq0.mpr (fun e => by
      cases q : bt v e with
      | false => rfl
      | true => exact absurd ((hv e).mp q) List.not_mem_nil)
    refine ⟨v, ?_, fun e => by rw [List.drop_nil]; exact hv e⟩
    rw [f_X6_edgeAt_67.eq_2]
    by_cases q : nI k ≤ nI i
    · rw [if_pos q]
    · rw [if_neg q, if_pos ((lg0 _).mpr hz)]
  | a :: t, n, i, v, hp, hv, hik, hn => by
    obtain ⟨n, rfl⟩ : ∃ n', n = n' + 1 := ⟨n - 1, by simp at hn; omega⟩
    obtain ⟨p1, p2⟩ := List.pairwise_cons.mp hp
    have ha : bt v a = true := (hv a).mpr List.mem_cons_self
    rw [f_X6_edgeAt_67.eq_2]
    by_cases q : k ≤ i
    · rw [if_pos ((nI_leI hk (by omega)).mpr q)]
      refine ⟨v, rfl, fun e => ?_⟩
      rw [show k - i = 0 by omega]; exact hv e
    · rw [if_neg (by rw [nI_leI hk (by omega)]; exact q), if_neg (by
        rw [lg0]
        intro z
        rw [z, bt_0] at ha; cases ha)]
      simp only [ob]
      rw [nI_1 i]
      have hlow : ∀ j, j < a → bt v j = false := fun j hj => by
        cases z : bt v j with
        | false => rfl
        | true =>
          rcases List.mem_cons.mp ((hv j).mp z) with y | y
          · omega
          · have := p1 j y; omega
      obtain ⟨v', e', h'⟩ := k_ea67 hk t n (i + 1) (v &&& (v - 1)) p2 (fun e => by
        rw [bt_drop ha hlow, hv e, List.mem_cons]
        constructor
        · rintro ⟨y | y, z⟩
          · exact absurd y z
          · exact y
        · intro y
          exact ⟨Or.inr y, fun z => by have := p1 e y; omega⟩) (by omega) (by simp at hn; omega)
      refine ⟨v', e', fun e => ?_⟩
      rw [h' e, show k - i = (k - (i + 1)) + 1 by omega, List.drop_succ_cons]
theorem k_leastLs {v : Int64} {Ls : List Nat} (hp : Ls.Pairwise (fun a b => a < b)) (hv : ∀ e, bt v e = true ↔ e ∈ Ls) : f_X6_leastOf v = some (oI (Ls[0]?)) := by
  cases Ls with
  | nil =>
    have hz : v = 0 := bt_eq0.mpr (fun e => by
      cases q : bt v e with
      | false => rfl
      | true => exact absurd ((hv e).mp q) List.not_mem_nil)
    rw [hz, leastOf_0]; rfl
  | cons a t =>
    obtain ⟨p1, p2⟩ := List.pairwise_cons.mp hp
    rw [leastOf_eq ((hv a).mpr List.mem_cons_self) (fun j hj => by
      cases z : bt v j with
      | false => rfl
      | true =>
        rcases List.mem_cons.mp ((hv j).mp z) with y | y
        · omega
        · have := p1 j y; omega)]
    rfl
theorem k_eaE {k : Nat} (hk : k < 2 ^ 31) {Ls : List Nat} {v : Int64} (hp : Ls.Pairwise (fun a b => a < b)) (hl : Ls.length < 600) (hv : ∀ e, bt v e = decide (e ∈ Ls)) : ((f_X6_edgeAt_67 (nI k) 600 v (nI 0)).bind fun v21 => ((f_X6_leastOf v21).bind fun v28 => some v28)) = some (oI (Ls[k]?)) := by
  obtain ⟨v', e1, h1⟩ := k_ea67 hk Ls 600 0 v hp (fun e => by rw [hv e, decide_eq_true_iff]) (Nat.zero_le _) hl
  rw [e1]
  simp only [ob]
  rw [k_leastLs (Ls := Ls.drop (k - 0)) (hp.sublist (List.drop_sublist _ _)) h1]
  simp only [ob]
  rw [List.getElem?_drop, Nat.sub_zero, Nat.add_zero]
theorem gToL_len (w h k : Nat) : (gToL w h k).length ≤ 4 := by
  unfold gToL
  exact Nat.le_trans (List.length_filter_le _ _) (by simp)
theorem s_edgeAt : Stp_12 Rl := by
  intro σ τ a b d ⟨x, L, T, c, r, o1, o2⟩
  have hd := r.2.1.1
  have h16 := gC_16 hd
  have h25 := gK_25 hd
  by_cases ha : a = 0
  · rw [if_pos ha]
    unfold f_X6_edgeAt
    rw [if_pos (show (0 : Int32) = nI 0 from rfl)]
    rcases m_edgeAt0 r b d with ⟨p, k, hp, hk, rfl, rfl, e2⟩ | ⟨hn, e2⟩
    · rw [k_hasCell c.1.1 hp]
      simp only [ob]
      rw [if_neg (by decide), if_pos (nI_nn k hk), if_pos (show (0 : Int32) = nI 0 from rfl), if_pos (ig (by omega) (by omega)), nI_clamp (by omega)]
      simp only [ob]
      have := k_eaE hk (gArL_pw hd hp) (by show 4 < 600; decide) (c.1.2.1.1 p hp)
      rw [this]
      exact ⟨_, rfl, e2, x, L, T, c, r, o1, o2⟩
    · refine ⟨-2, ?_, e2, x, L, T, c, r, o1, o2⟩
      rcases k_hasCellG c.1.1 b with ⟨p, hp, rfl, e1⟩ | ⟨_, e1⟩
      · rw [e1]
        simp only [ob]
        rw [if_neg (by decide), if_neg (hn.resolve_left (fun z => z p hp rfl))]
      · rw [e1]
        simp only [ob]
        rw [if_pos trivial]
  · rw [if_neg ha]
    unfold f_X6_edgeAt
    rw [if_neg (show ¬ (1 : Int32) = nI 0 by decide)]
    rcases m_edgeAt1 r b d with ⟨p, k, hp, hk, rfl, rfl, e2⟩ | ⟨hn, e2⟩
    · rw [k_hasCorner c.1.1 hp]
      simp only [ob]
      rw [if_neg (by decide), if_pos (nI_nn k hk), if_neg (show ¬ (1 : Int32) = nI 0 by decide), if_pos (ig (by omega) (by omega)), nI_clamp (by omega)]
      simp only [ob]
      have := k_eaE hk (gToL_pw hd hp) (by have := gToL_len x.w x.h p; omega) (c.1.2.1.2 p hp)
      rw [this]
      exact ⟨_, rfl, e2, x, L, T, c, r, o1, o2⟩
    · refine ⟨-2, ?_, e2, x, L, T, c, r, o1, o2⟩
      rcases k_hasCornerG c.1.1 b with ⟨p, hp, rfl, e1⟩ | ⟨_, e1⟩
      · rw [e1]
        simp only [ob]
        rw [if_neg (by decide), if_neg (hn.resolve_left (fun z => z p hp rfl))]
      · rw [e1]
        simp only [ob]
        rw [if_pos trivial]
