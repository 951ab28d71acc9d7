/-! single bits -/
theorem bt_and (x y : Int64) (e : Nat) : bt (x &&& y) e = (bt x e && bt y e) := by
  show (x.toBitVec &&& y.toBitVec).getLsbD e = _
  rw [BitVec.getLsbD_and]; rfl
theorem bt_or (x y : Int64) (e : Nat) : bt (x ||| y) e = (bt x e || bt y e) := by
  show (x.toBitVec ||| y.toBitVec).getLsbD e = _
  rw [BitVec.getLsbD_or]; rfl
theorem bt_xor (x y : Int64) (e : Nat) : bt (x ^^^ y) e = (bt x e ^^ bt y e) := by
  show (x.toBitVec ^^^ y.toBitVec).getLsbD e = _
  rw [BitVec.getLsbD_xor]; rfl
theorem bt_ge (x : Int64) {e : Nat} (h : 64 ≤ e) : bt x e = false := BitVec.getLsbD_of_ge _ _ h
theorem bt_lt {x : Int64} {e : Nat} (h : bt x e = true) : e < 64 := by
  by_cases h2 : e < 64
  · exact h2
  · rw [bt_ge x (by omega)] at h; cases h
theorem bt_m1 {e : Nat} (h : e < 64) : bt (-1 : Int64) e = true := by
  have : ∀ e, e < 64 → bt (-1 : Int64) e = true := by decide +kernel
  exact this e h
theorem bt_0 (e : Nat) : bt (0 : Int64) e = false := by
  show (0#64).getLsbD e = false
  simp
theorem bt_compl (x : Int64) (e : Nat) : bt (x ^^^ (-1 : Int64)) e = (decide (e < 64) && !bt x e) := by
  rw [bt_xor]
  by_cases h : e < 64
  · rw [bt_m1 h]; simp [h]
  · rw [bt_ge x (by omega), bt_ge (-1) (by omega)]; simp [h]
theorem bt_ext {x y : Int64} (h : ∀ e, e < 64 → bt x e = bt y e) : x = y := by
  apply Int64.toBitVec_inj.mp
  apply BitVec.eq_of_getLsbD_eq
  intro i hi
  exact h i hi
theorem bt_eq0 {x : Int64} : x = 0 ↔ ∀ e, bt x e = false := by
  refine ⟨fun h e => by rw [h, bt_0], fun h => bt_ext (fun e _ => by rw [h e, bt_0])⟩
theorem bt_ne0 {x : Int64} : ¬ x = 0 ↔ ∃ e, e < 64 ∧ bt x e = true := by
  rw [bt_eq0]
  refine ⟨fun h => ?_, fun ⟨e, _, he⟩ h => by rw [h e] at he; cases he⟩
  apply Classical.byContradiction
  intro hn
  refine h (fun e => ?_)
  cases hb : bt x e with
  | false => rfl
  | true => exact absurd ⟨e, bt_lt hb, hb⟩ hn
def b1 (e : Nat) : Int64 := o_lshl (1 : Int64) (nI e)
theorem sh63 : ∀ e, e < 64 → (((nI e).toInt64 &&& 63).toBitVec.smod 64#64).toNat = e := by decide +kernel
theorem sh63u : ∀ e, e < 64 → (((nI e).toInt64.toUInt64 &&& Int64.toUInt64 63).toBitVec % 64#64).toNat = e := by decide +kernel
theorem bt_b1 {e : Nat} (he : e < 64) (i : Nat) : bt (b1 e) i = decide (i = e) := by
  show ((1#64 : BitVec 64) <<< (((nI e).toInt64 &&& 63).toBitVec.smod 64#64)).getLsbD i = _
  rw [BitVec.shiftLeft_eq', BitVec.getLsbD_shiftLeft, sh63 e he]
  by_cases hi : i = e
  · subst hi; simp [he]
  · by_cases h2 : i < e
    · simp [h2, hi]
    · simp only [BitVec.getLsbD_one, h2]
      have : ¬ i - e = 0 := by omega
      simp [this, hi]
theorem lsr_bit {x : Int64} {e : Nat} (he : e < 64) : (o_lushr x (nI e)) &&& (1 : Int64) = if bt x e then 1 else 0 := by
  apply bt_ext
  intro i hi
  rw [bt_and]
  have h1 : bt (1 : Int64) i = decide (i = 0) := bt_b1 (e := 0) (by decide) i
  have h2 : bt (o_lushr x (nI e)) i = bt x (e + i) := by
    show (x.toBitVec >>> (((nI e).toInt64.toUInt64 &&& Int64.toUInt64 63).toBitVec % 64#64)).getLsbD i = _
    rw [BitVec.ushiftRight_eq', BitVec.getLsbD_ushiftRight, sh63u e he]
    rfl
  rw [h1, h2]
  by_cases h0 : i = 0
  · subst h0
    simp
    cases hb : bt x e with
    | true => exact (bt_b1 (e := 0) (by decide) 0).symm
    | false => exact (bt_0 0).symm
  · simp [h0]
    cases hb : bt x e with
    | true => rw [if_pos rfl, h1]; simp [h0]
    | false => rw [if_neg (by simp), bt_0]
theorem lg0 (x : Int64) : (lg_cmp x (0 : Int64) = nI 0) ↔ x = 0 := by
  show (lg_cmp x (0 : Int64) = 0) ↔ x = 0
  unfold lg_cmp
  constructor
  · intro h
    split at h
    · cases h
    · split at h
      · assumption
      · cases h
  · intro h
    subst h
    rfl
theorem lsr_test {x : Int64} {e : Nat} (he : e < 64) : (lg_cmp ((o_lushr x (nI e)) &&& (1 : Int64)) (0 : Int64) = nI 0) ↔ bt x e = false := by
  rw [lg0, lsr_bit he]
  cases bt x e <;> simp
/-- the least bit -/
theorem bt_low {x : Int64} {m : Nat} (hm : bt x m = true) (hl : ∀ j, j < m → bt x j = false) (i : Nat) : bt (x &&& (-x)) i = decide (i = m) := by
  have hm64 := bt_lt hm
  rw [bt_and]
  have h1 : bt (-x) i = (bt x i ^^ (decide (i < 64) && decide (∃ j, j < i ∧ bt x j = true))) := by
    show (-x.toBitVec).getLsbD i = _
    rw [BitVec.getLsbD_neg]
    simp [bt]
    congr
  rw [h1]
  by_cases h : i = m
  · subst h
    have h2 : decide (∃ j, j < i ∧ bt x j = true) = false := decide_eq_false (fun ⟨j, hj, hb⟩ => by rw [hl j hj] at hb; cases hb)
    rw [hm, h2]
    simp
  · by_cases h2 : i < m
    · rw [hl i h2]; simp [h]
    · by_cases h3 : i < 64
      · have h4 : decide (∃ j, j < i ∧ bt x j = true) = true := decide_eq_true ⟨m, by omega, hm⟩
        rw [h4]
        cases bt x i <;> simp [h, h3]
      · rw [bt_ge x (by omega)]; simp [h]
theorem low_b1 {x : Int64} {m : Nat} (hm : bt x m = true) (hl : ∀ j, j < m → bt x j = false) : x &&& (-x) = b1 m :=
  bt_ext (fun i _ => by rw [bt_low hm hl, bt_b1 (bt_lt hm)])
theorem pc_b1m : ∀ m, m < 64 → pc (b1 m - 1) = m := by decide +kernel
theorem leastOf_0 : f_X6_leastOf 0 = some (-1) := by
  unfold f_X6_leastOf
  rw [if_pos ((lg0 0).mpr rfl)]
theorem leastOf_eq {x : Int64} {m : Nat} (hm : bt x m = true) (hl : ∀ j, j < m → bt x j = false) : f_X6_leastOf x = some (nI m) := by
  unfold f_X6_leastOf
  rw [if_neg (by rw [lg0, bt_ne0]; exact ⟨m, bt_lt hm, hm⟩), low_b1 hm hl, bitCount_eq]
  simp [pc_b1m m (bt_lt hm)]
theorem least_ex {x : Int64} (h : ¬ x = 0) : ∃ m, m < 64 ∧ bt x m = true ∧ ∀ j, j < m → bt x j = false := by
  obtain ⟨e, he, hb⟩ := bt_ne0.mp h
  obtain ⟨m, hm, hl⟩ := pk_least (fun k => bt x k = true) ⟨e, hb⟩
  exact ⟨m, bt_lt hm, hm, fun j hj => by cases hq : bt x j with | false => rfl | true => exact absurd hq (hl j hj)⟩
