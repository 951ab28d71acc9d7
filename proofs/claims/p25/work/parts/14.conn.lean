/-! CONNECTION, and the rows of tops -/
def CnI (w h : Nat) (mk : Nat → Nat) (i a b : Nat) : Prop := ∀ S : Nat → Prop, (∀ e, e < i → mk e = 1 → (S (gEn w h e 0) ↔ S (gEn w h e 1))) → (S a ↔ S b)
def Cn (w h : Nat) (mk : Nat → Nat) (a b : Nat) : Prop := CnI w h mk (gE w h) a b
theorem CnI.rf {w h : Nat} {mk : Nat → Nat} {i a : Nat} : CnI w h mk i a a := fun _ _ => Iff.rfl
theorem CnI.sy {w h : Nat} {mk : Nat → Nat} {i a b : Nat} (x : CnI w h mk i a b) : CnI w h mk i b a := fun S hS => (x S hS).symm
theorem CnI.tr {w h : Nat} {mk : Nat → Nat} {i a b c : Nat} (x : CnI w h mk i a b) (y : CnI w h mk i b c) : CnI w h mk i a c := fun S hS => (x S hS).trans (y S hS)
theorem CnI.up {w h : Nat} {mk : Nat → Nat} {i a b : Nat} (x : CnI w h mk i a b) : CnI w h mk (i + 1) a b := fun S hS => x S (fun e he hm => hS e (by omega) hm)
theorem CnI.ed {w h : Nat} {mk : Nat → Nat} {i e : Nat} (he : e < i) (hm : mk e = 1) : CnI w h mk i (gEn w h e 0) (gEn w h e 1) := fun S hS => hS e he hm
theorem CnI.no {w h : Nat} {mk : Nat → Nat} {i a b : Nat} (hm : ¬ mk i = 1) (x : CnI w h mk (i + 1) a b) : CnI w h mk i a b := fun S hS => x S (fun e he h1 => hS e (by
  rcases Nat.lt_or_ge e i with q | q
  · exact q
  · exact absurd (by rw [show i = e by omega]; exact h1) hm) h1)
theorem CnI.z {w h : Nat} {mk : Nat → Nat} {a b : Nat} : CnI w h mk 0 a b ↔ a = b := by
  refine ⟨fun x => ?_, fun x => x ▸ CnI.rf⟩
  exact ((x (fun y => y = a) (fun e he => absurd he (Nat.not_lt_zero e))).mp rfl).symm
/-- rows of tops: each points at itself or below -/
def rt (U : Nat → Nat) : Nat → Nat → Nat
  | 0, k => k
  | n + 1, k => if U k = k then k else rt U n (U k)
def top (U : Nat → Nat) (k : Nat) : Nat := rt U (k + 1) k
def dn (U : Nat → Nat) (K : Nat) : Prop := ∀ k, k < K → U k ≤ k
theorem rt_any {U : Nat → Nat} {K : Nat} (hd : dn U K) : ∀ (n m k : Nat), k < K → k < n → k < m → rt U n k = rt U m k
  | 0, m, k, _, h, _ => absurd h (Nat.not_lt_zero k)
  | n + 1, 0, k, _, _, h => absurd h (Nat.not_lt_zero k)
  | n + 1, m + 1, k, hK, h1, h2 => by
    unfold rt
    by_cases hk : U k = k
    · rw [if_pos hk, if_pos hk]
    · rw [if_neg hk, if_neg hk]
      have := hd k hK
      exact rt_any hd n m (U k) (by omega) (by omega) (by omega)
theorem top_self {U : Nat → Nat} {k : Nat} (hk : U k = k) : top U k = k := by
  unfold top rt
  rw [if_pos hk]
theorem top_step {U : Nat → Nat} {K k : Nat} (hd : dn U K) (hK : k < K) (hk : ¬ U k = k) : top U k = top U (U k) := by
  have h1 := hd k hK
  have h2 : top U k = rt U k (U k) := by
    show rt U (k + 1) k = _
    rw [show rt U (k + 1) k = if U k = k then k else rt U k (U k) from rfl, if_neg hk]
  rw [h2]
  exact rt_any hd _ _ _ (by omega) (by omega) (by omega)
theorem top_fix {U : Nat → Nat} {K : Nat} (hd : dn U K) : ∀ (n k : Nat), k < n → k < K → U (top U k) = top U k ∧ top U k ≤ k
  | 0, k, h, _ => absurd h (Nat.not_lt_zero k)
  | n + 1, k, h, hK => by
    by_cases hk : U k = k
    · rw [top_self hk]; exact ⟨hk, Nat.le_refl _⟩
    · have h1 := hd k hK
      rw [top_step hd hK hk]
      have h2 := top_fix hd n (U k) (by omega) (by omega)
      exact ⟨h2.1, by omega⟩
def lnk (U : Nat → Nat) (a b : Nat) : Nat → Nat := fun j => if j = b then a else U j
theorem lnk_dn {U : Nat → Nat} {K a b : Nat} (hd : dn U K) (hab : a ≤ b) : dn (lnk U a b) K := by
  intro k hk
  unfold lnk
  by_cases h : k = b
  · rw [if_pos h]; omega
  · rw [if_neg h]; exact hd k hk
theorem top_lnk {U : Nat → Nat} {K a b : Nat} (hd : dn U K) (hab : a < b) (ha : U a = a) (hb : U b = b) (hbK : b < K) : ∀ (n k : Nat), k < n → k < K → top (lnk U a b) k = if top U k = b then a else top U k
  | 0, k, h, _ => absurd h (Nat.not_lt_zero k)
  | n + 1, k, h, hK => by
    have hd' : dn (lnk U a b) K := lnk_dn hd (by omega)
    have la : lnk U a b a = a := by unfold lnk; rw [if_neg (by omega), ha]
    have lb : lnk U a b b = a := by unfold lnk; rw [if_pos rfl]
    by_cases hk : U k = k
    · rw [top_self hk]
      by_cases hkb : k = b
      · subst hkb
        rw [if_pos rfl, top_step hd' hK (by rw [lb]; omega), lb, top_self la]
      · rw [if_neg hkb, top_self]
        unfold lnk
        rw [if_neg hkb, hk]
    · have hkb : k ≠ b := fun e => hk (by rw [e, hb])
      have hl : lnk U a b k = U k := by unfold lnk; rw [if_neg hkb]
      have h1 := hd k hK
      rw [top_step hd' hK (by rw [hl]; exact hk), hl, top_step hd hK hk]
      exact top_lnk hd hab ha hb hbK n (U k) (by omega) (by omega)
/-- what the rows say when the edges below i are joined -/
def UF (w h : Nat) (mk : Nat → Nat) (i : Nat) (U : Nat → Nat) : Prop := dn U (gK w h) ∧ ∀ a b, a < gK w h → b < gK w h → (top U a = top U b ↔ CnI w h mk i a b)
theorem UF_0 {w h : Nat} {mk : Nat → Nat} {U : Nat → Nat} (hU : ∀ k, k < gK w h → U k = k) : UF w h mk 0 U := by
  refine ⟨fun k hk => by rw [hU k hk]; exact Nat.le_refl _, fun a b ha hb => ?_⟩
  rw [top_self (hU a ha), top_self (hU b hb), CnI.z]
theorem UF_no {w h : Nat} {mk : Nat → Nat} {i : Nat} {U : Nat → Nat} (hu : UF w h mk i U) (hm : ¬ mk i = 1) : UF w h mk (i + 1) U :=
  ⟨hu.1, fun a b ha hb => ⟨fun x => ((hu.2 a b ha hb).mp x).up, fun x => (hu.2 a b ha hb).mpr (CnI.no hm x)⟩⟩
theorem UF_yes {w h : Nat} {mk : Nat → Nat} {i : Nat} {U : Nat → Nat} (hd : dim w h) (hi : i < gE w h) (hu : UF w h mk i U) (hm : mk i = 1) : UF w h mk (i + 1) (lnk U (min (top U (gEn w h i 0)) (top U (gEn w h i 1))) (max (top U (gEn w h i 0)) (top U (gEn w h i 1)))) := by
  have hp := gEn_lt hd hi (s := 0) (by decide)
  have hq := gEn_lt hd hi (s := 1) (by decide)
  have hed : CnI w h mk (i + 1) (gEn w h i 0) (gEn w h i 1) := CnI.ed (by omega) hm
  have fp := top_fix hu.1 (gEn w h i 0 + 1) _ (by omega) hp
  have fq := top_fix hu.1 (gEn w h i 1 + 1) _ (by omega) hq
  have key : ∃ m M, m = min (top U (gEn w h i 0)) (top U (gEn w h i 1)) ∧ M = max (top U (gEn w h i 0)) (top U (gEn w h i 1)) ∧ (top U (gEn w h i 0) = m ∧ top U (gEn w h i 1) = M ∨ top U (gEn w h i 0) = M ∧ top U (gEn w h i 1) = m) ∧ m ≤ M ∧ U m = m ∧ U M = M ∧ M < gK w h := by
    refine ⟨_, _, rfl, rfl, ?_⟩
    rcases Nat.le_total (top U (gEn w h i 0)) (top U (gEn w h i 1)) with z | z
    · rw [Nat.min_eq_left z, Nat.max_eq_right z]
      exact ⟨Or.inl ⟨rfl, rfl⟩, z, fp.1, fq.1, by omega⟩
    · rw [Nat.min_eq_right z, Nat.max_eq_left z]
      exact ⟨Or.inr ⟨rfl, rfl⟩, z, fq.1, fp.1, by omega⟩
  obtain ⟨m, M, em, eM, hor, hmM, hUm, hUM, hMK⟩ := key
  rw [← em, ← eM]
  have hT : ∀ k, k < gK w h → top (lnk U m M) k = if top U k = M then m else top U k := by
    intro k hk
    rcases Nat.lt_or_ge m M with z | z
    · exact top_lnk hu.1 z hUm hUM hMK (k + 1) k (by omega) hk
    · have e0 : m = M := by omega
      have e1 : lnk U m M = U := by
        funext j
        unfold lnk
        by_cases hj : j = M
        · rw [if_pos hj, hj, hUM, e0]
        · rw [if_neg hj]
      rw [e1]
      by_cases hk2 : top U k = M
      · rw [if_pos hk2, hk2, e0]
      · rw [if_neg hk2]
  refine ⟨lnk_dn hu.1 hmM, fun a b ha hb => ⟨fun x => ?_, fun x => ?_⟩⟩
  · rw [hT a ha, hT b hb] at x
    have hmm : ∀ c d, c < gK w h → d < gK w h → top U c = M → top U d = m → CnI w h mk (i + 1) c d := by
      intro c d hc hd2 e1 e2
      rcases hor with ⟨e3, e4⟩ | ⟨e3, e4⟩
      · exact (((hu.2 c _ hc hq).mp (e1.trans e4.symm)).up.tr hed.sy).tr ((hu.2 _ d hp hd2).mp (e3.trans e2.symm)).up
      · exact (((hu.2 c _ hc hp).mp (e1.trans e3.symm)).up.tr hed).tr ((hu.2 _ d hq hd2).mp (e4.trans e2.symm)).up
    by_cases e1 : top U a = M
    · by_cases e2 : top U b = M
      · exact ((hu.2 a b ha hb).mp (e1.trans e2.symm)).up
      · rw [if_pos e1, if_neg e2] at x
        exact hmm a b ha hb e1 x.symm
    · by_cases e2 : top U b = M
      · rw [if_neg e1, if_pos e2] at x
        exact (hmm b a hb ha e2 x).sy
      · rw [if_neg e1, if_neg e2] at x
        exact ((hu.2 a b ha hb).mp x).up
  · have hS := (x (fun y => (if top U y = M then m else top U y) = (if top U a = M then m else top U a)) (fun e he h1 => ?_)).mp rfl
    · rw [hT a ha, hT b hb]
      exact hS.symm
    · have hpe := gEn_lt hd (show e < gE w h by omega) (s := 0) (by decide)
      have hqe := gEn_lt hd (show e < gE w h by omega) (s := 1) (by decide)
      rcases Nat.lt_or_ge e i with z | z
      · have h2 := (hu.2 _ _ hpe hqe).mpr (CnI.ed z h1)
        rw [h2]
      · have : e = i := by omega
        subst this
        have h3 : (if top U (gEn w h e 0) = M then m else top U (gEn w h e 0)) = m := by
          rcases hor with ⟨e3, e4⟩ | ⟨e3, e4⟩
          · rw [e3]
            by_cases q : m = M
            · rw [if_pos q]
            · rw [if_neg q]
          · rw [if_pos e3]
        have h4 : (if top U (gEn w h e 1) = M then m else top U (gEn w h e 1)) = m := by
          rcases hor with ⟨e3, e4⟩ | ⟨e3, e4⟩
          · rw [if_pos e4]
          · rw [e4]
            by_cases q : m = M
            · rw [if_pos q]
            · rw [if_neg q]
        rw [h3, h4]
