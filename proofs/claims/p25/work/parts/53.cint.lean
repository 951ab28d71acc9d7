/-! BITS OF INTS -/
def bi (x : Int32) (e : Nat) : Bool := x.toBitVec.getLsbD e
theorem bi_ge (x : Int32) {e : Nat} (h : 32 ≤ e) : bi x e = false := BitVec.getLsbD_of_ge _ _ h
theorem bi_lt {x : Int32} {e : Nat} (h : bi x e = true) : e < 32 := by
  by_cases h2 : e < 32
  · exact h2
  · rw [bi_ge x (by omega)] at h; cases h
theorem bi_and (x y : Int32) (e : Nat) : bi (x &&& y) e = (bi x e && bi y e) := by
  show (x.toBitVec &&& y.toBitVec).getLsbD e = _
  rw [BitVec.getLsbD_and]; rfl
theorem bi_or (x y : Int32) (e : Nat) : bi (x ||| y) e = (bi x e || bi y e) := by
  show (x.toBitVec ||| y.toBitVec).getLsbD e = _
  rw [BitVec.getLsbD_or]; rfl
theorem bi_xor (x y : Int32) (e : Nat) : bi (x ^^^ y) e = (bi x e ^^ bi y e) := by
  show (x.toBitVec ^^^ y.toBitVec).getLsbD e = _
  rw [BitVec.getLsbD_xor]; rfl
theorem bi_m1 {e : Nat} (h : e < 32) : bi (-1 : Int32) e = true := by
  have : ∀ e, e < 32 → bi (-1 : Int32) e = true := by decide +kernel
  exact this e h
theorem bi_0 (e : Nat) : bi (nI 0) e = false := by
  show (0#32).getLsbD e = false
  simp
theorem bi_ext {x y : Int32} (h : ∀ e, e < 32 → bi x e = bi y e) : x = y := by
  apply Int32.toBitVec_inj.mp
  apply BitVec.eq_of_getLsbD_eq
  intro i hi
  exact h i hi
theorem bi_eq0 {x : Int32} : x = nI 0 ↔ ∀ e, bi x e = false := by
  refine ⟨fun h e => by rw [h, bi_0], fun h => bi_ext (fun e _ => by rw [h e, bi_0])⟩
theorem bi_one_dec : ∀ c, c < 32 → (nI 1 <<< (nI c &&& 31)).toBitVec = BitVec.ofNat 32 (2 ^ c) := by decide +kernel
theorem bi_one {c : Nat} (hc : c < 32) (i : Nat) : bi (nI 1 <<< (nI c &&& 31)) i = decide (i = c) := by
  show (nI 1 <<< (nI c &&& 31)).toBitVec.getLsbD i = _
  rw [bi_one_dec c hc, BitVec.getLsbD_ofNat, Nat.testBit_two_pow]
  by_cases h : c = i
  · subst h; simp [hc]
  · simp [h, Ne.symm h]
theorem k_with (x : Int32) {c : Nat} (hc : c < 32) (v : Int32) : ∃ y, f_X6_with x (nI c) v = some y ∧ ∀ i, bi y i = if i = c then decide (¬ v = nI 0) else bi x i := by
  unfold f_X6_with
  by_cases h : v = nI 0
  · rw [if_pos h]
    refine ⟨_, rfl, fun i => ?_⟩
    rw [bi_and, bi_xor, bi_one hc]
    by_cases a : i = c
    · rw [if_pos a, bi_m1 (by omega)]; simp [a, h]
    · rw [if_neg a]
      by_cases b : i < 32
      · rw [bi_m1 b]; simp [a]
      · rw [bi_ge x (by omega)]; rfl
  · rw [if_neg h]
    refine ⟨_, rfl, fun i => ?_⟩
    rw [bi_or, bi_one hc]
    by_cases a : i = c
    · rw [if_pos a]; simp [a, h]
    · rw [if_neg a]; simp [a]
theorem bt_i64 (x : Int32) {i : Nat} (hi : i < 32) : bt x.toInt64 i = bi x i := by
  show (x.toBitVec.signExtend 64).getLsbD i = _
  rw [BitVec.getLsbD_signExtend]
  simp [hi, bi]
  omega
theorem bt_i64h (x : Int32) {i : Nat} (h31 : bi x 31 = false) (hi : 32 ≤ i) : bt x.toInt64 i = false := by
  show (x.toBitVec.signExtend 64).getLsbD i = _
  rw [BitVec.getLsbD_signExtend, if_neg (by omega)]
  have : x.toBitVec.msb = false := by
    rw [BitVec.msb_eq_getLsbD_last]; exact h31
  rw [this]
  simp
theorem k_leastL {x : Int64} {N : Nat} {P : Nat → Prop} (hN : N < 99) (hx : ∀ i, bt x i = true ↔ i < N ∧ P i) : f_X6_leastOf x = some (tI (lst N P)) := by
  rcases lst_or N P with ⟨j, a, b, c, d⟩ | ⟨a, d⟩
  · rw [d, tI_n (by omega)]
    refine leastOf_eq ((hx j).mpr ⟨a, b⟩) (fun l hl => ?_)
    cases q : bt x l with
    | false => rfl
    | true => exact absurd ((hx l).mp q).2 (c l hl)
  · have hz : x = 0 := bt_eq0.mpr (fun e => by
      cases q : bt x e with
      | false => rfl
      | true => exact absurd ((hx e).mp q).2 (a e ((hx e).mp q).1))
    rw [d, hz, leastOf_0]
    rfl
theorem k_leastI {x : Int32} {N : Nat} {P : Nat → Prop} (hN : N < 32) (hx : ∀ i, bi x i = true ↔ i < N ∧ P i) : f_X6_leastOf x.toInt64 = some (tI (lst N P)) := by
  have h31 : bi x 31 = false := by
    cases q : bi x 31 with
    | false => rfl
    | true => have := ((hx 31).mp q).1; omega
  refine k_leastL (by omega) (fun i => ?_)
  by_cases h : i < 32
  · rw [bt_i64 x h]; exact hx i
  · rw [bt_i64h x h31 (by omega)]
    constructor
    · intro q; cases q
    · intro q; omega
theorem iush_dec : ∀ c, c < 32 → ((nI c).toUInt32 &&& Int32.toUInt32 31).toBitVec % 32#32 = BitVec.ofNat 32 c := by decide +kernel
theorem k_iush {x : Int32} {c : Nat} (hc : c < 32) : (o_iushr x (nI c) &&& nI 1 = nI 0) ↔ bi x c = false := by
  have h1 : ∀ i, bi (nI 1) i = decide (i = 0) := fun i => bi_one (c := 0) (by decide) i
  have h2 : ∀ i, bi (o_iushr x (nI c)) i = bi x (c + i) := by
    intro i
    show (x.toBitVec >>> (((nI c).toUInt32 &&& Int32.toUInt32 31).toBitVec % 32#32)).getLsbD i = _
    rw [iush_dec c hc, BitVec.ushiftRight_eq', BitVec.getLsbD_ushiftRight, BitVec.toNat_ofNat, Nat.mod_eq_of_lt (by omega)]
    rfl
  rw [bi_eq0]
  constructor
  · intro h
    have := h 0
    rw [bi_and, h1, h2] at this
    simpa using this
  · intro h e
    rw [bi_and, h1, h2]
    by_cases a : e = 0
    · subst a; simpa using h
    · simp [a]
