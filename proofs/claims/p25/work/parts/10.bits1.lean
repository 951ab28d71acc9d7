/-! BITS -/
theorem an_split (w a b c d : Nat) (hb : b < 2 ^ w) (hd : d < 2 ^ w) : (a * 2 ^ w + b) &&& (c * 2 ^ w + d) = (a &&& c) * 2 ^ w + (b &&& d) := by
  apply Nat.eq_of_testBit_eq
  intro i
  have h3 : b &&& d < 2 ^ w := Nat.lt_of_le_of_lt Nat.and_le_left hb
  rw [Nat.testBit_and, Nat.mul_comm a, Nat.mul_comm c, Nat.mul_comm (a &&& c), Nat.testBit_two_pow_mul_add _ hb, Nat.testBit_two_pow_mul_add _ hd, Nat.testBit_two_pow_mul_add _ h3]
  by_cases h : i < w
  · simp [h]
  · simp [h]
def pm5 : Nat → Nat
  | 0 => 0
  | n + 1 => pm5 n * 256 + 85
def pm3 : Nat → Nat
  | 0 => 0
  | n + 1 => pm3 n * 256 + 51
def pmF : Nat → Nat
  | 0 => 0
  | n + 1 => pmF n * 256 + 15
def py (n x : Nat) : Nat := x - ((x / 2) &&& pm5 n)
def pb (n v : Nat) : Nat := (v &&& pm3 n) + ((v / 4) &&& pm3 n)
def pz (n v : Nat) : Nat := (v + v / 16) &&& pmF n
def p8 (d : Nat) : Nat := (List.range 8).countP (fun i => d.testBit i)
theorem p5_dec : ∀ r, r < 2 → ∀ b, b < 256 → (r * 128 + b / 2) &&& 85 = (b / 2) &&& 85 := by decide +kernel
theorem p3_dec : ∀ r, r < 4 → ∀ b, b < 256 → (r * 64 + b / 4) &&& 51 = (b / 4) &&& 51 := by decide +kernel
theorem pF_dec : ∀ r, r < 5 → ∀ b, b < 256 → (pb 1 (py 1 b) + pb 1 (py 1 b) / 16 + 16 * r) &&& 15 = p8 b ∧ pb 1 (py 1 b) + pb 1 (py 1 b) / 16 + 16 * r < 256 ∧ pb 1 (py 1 b) % 16 < 5 ∧ pb 1 (py 1 b) < 256 ∧ py 1 b < 256 ∧ p8 b < 9 := by decide +kernel
theorem py_s (n a b : Nat) (hb : b < 256) : py (n + 1) (a * 256 + b) = py n a * 256 + py 1 b := by
  have h1 : (a * 256 + b) / 2 = (a / 2) * 256 + ((a % 2) * 128 + b / 2) := by omega
  have h2 : ((a / 2) * 256 + ((a % 2) * 128 + b / 2)) &&& (pm5 n * 256 + 85) = ((a / 2) &&& pm5 n) * 256 + (((a % 2) * 128 + b / 2) &&& 85) := an_split 8 _ _ _ _ (by omega) (by decide)
  have h3 := p5_dec (a % 2) (by omega) b hb
  have h4 : (a / 2) &&& pm5 n ≤ a := Nat.le_trans Nat.and_le_left (by omega)
  have h5 : (b / 2) &&& 85 ≤ b := Nat.le_trans Nat.and_le_left (by omega)
  unfold py
  rw [h1, show pm5 (n + 1) = pm5 n * 256 + 85 from rfl, h2, h3, show pm5 1 = 85 from rfl]
  omega
theorem pb_s (n a b : Nat) (hb : b < 256) : pb (n + 1) (a * 256 + b) = pb n a * 256 + pb 1 b := by
  have h1 : (a * 256 + b) / 4 = (a / 4) * 256 + ((a % 4) * 64 + b / 4) := by omega
  have h2 : ((a / 4) * 256 + ((a % 4) * 64 + b / 4)) &&& (pm3 n * 256 + 51) = ((a / 4) &&& pm3 n) * 256 + (((a % 4) * 64 + b / 4) &&& 51) := an_split 8 _ _ _ _ (by omega) (by decide)
  have h0 : (a * 256 + b) &&& (pm3 n * 256 + 51) = (a &&& pm3 n) * 256 + (b &&& 51) := an_split 8 _ _ _ _ hb (by decide)
  have h3 := p3_dec (a % 4) (by omega) b hb
  unfold pb
  rw [h1, show pm3 (n + 1) = pm3 n * 256 + 51 from rfl, h2, h3, h0, show pm3 1 = 51 from rfl]
  omega
theorem pb_low (n x : Nat) (h : x < 256 ^ n) : pb n (py n x) % 16 < 5 := by
  cases n with
  | zero => simp at h; subst h; decide
  | succ n =>
    have e : x = (x / 256) * 256 + x % 256 := by omega
    have hb : x % 256 < 256 := by omega
    have hh := pF_dec 0 (by decide) (x % 256) hb
    rw [e, py_s n _ _ hb, pb_s n _ _ hh.2.2.2.2.1]
    omega
def pS : Nat → Nat → Nat
  | 0, _ => 0
  | n + 1, x => pS n (x / 256) * 256 + p8 (x % 256)
theorem pz_S : ∀ (n x : Nat), x < 256 ^ n → pz n (pb n (py n x)) = pS n x
  | 0, x, h => by simp at h; subst h; decide
  | n + 1, x, h => by
    have hx : x / 256 < 256 ^ n := by rw [Nat.pow_succ] at h; omega
    have ih := pz_S n (x / 256) hx
    have e : x = (x / 256) * 256 + x % 256 := by omega
    have hb : x % 256 < 256 := by omega
    have hl := pb_low n (x / 256) hx
    have hh := pF_dec (pb n (py n (x / 256)) % 16) hl (x % 256) hb
    rw [show pS (n + 1) x = pS n (x / 256) * 256 + p8 (x % 256) from rfl, ← ih]
    conv => lhs; rw [e]
    rw [py_s n _ _ hb, pb_s n _ _ hh.2.2.2.2.1]
    generalize hV : pb n (py n (x / 256)) = V at hl hh ⊢
    generalize hD : pb 1 (py 1 (x % 256)) = D at hh ⊢
    have h1 : (V * 256 + D) + (V * 256 + D) / 16 = (V + V / 16) * 256 + (D + D / 16 + 16 * (V % 16)) := by omega
    unfold pz
    rw [h1, show pmF (n + 1) = pmF n * 256 + 15 from rfl]
    rw [show ((V + V / 16) * 256 + (D + D / 16 + 16 * (V % 16))) &&& (pmF n * 256 + 15) = ((V + V / 16) &&& pmF n) * 256 + ((D + D / 16 + 16 * (V % 16)) &&& 15) from an_split 8 _ _ _ _ hh.2.1 (by decide), hh.1]
def pcN (n x : Nat) : Nat := (List.range (8 * n)).countP (fun i => x.testBit i)
theorem pcN_s (n x : Nat) : pcN (n + 1) x = p8 (x % 256) + pcN n (x / 256) := by
  unfold pcN p8
  rw [show 8 * (n + 1) = 8 + 8 * n by omega, List.range_add, List.countP_append, List.countP_map]
  congr 1
  · apply List.countP_congr
    intro i hi
    rw [List.mem_range] at hi
    rw [show x % 256 = x % 2 ^ 8 from rfl, Nat.testBit_mod_two_pow]
    simp [hi]
  · apply List.countP_congr
    intro i hi
    simp only [Function.comp]
    rw [show x / 256 = x / 2 ^ 8 from rfl, Nat.testBit_div_two_pow, Nat.add_comm i 8]
theorem p8_le (d : Nat) (h : d < 256) : p8 d ≤ 8 := Nat.le_trans (List.countP_le_length) (by simp)
theorem pop_end (x : Nat) (h : x < 2 ^ 64) : ∃ p0 p1 p2 p3 p4 p5 p6 p7 : Nat, p0 ≤ 8 ∧ p1 ≤ 8 ∧ p2 ≤ 8 ∧ p3 ≤ 8 ∧ p4 ≤ 8 ∧ p5 ≤ 8 ∧ p6 ≤ 8 ∧ p7 ≤ 8 ∧ pS 8 x = ((((((p7 * 256 + p6) * 256 + p5) * 256 + p4) * 256 + p3) * 256 + p2) * 256 + p1) * 256 + p0 ∧ pcN 8 x = p0 + p1 + p2 + p3 + p4 + p5 + p6 + p7 := by
  refine ⟨p8 (x % 256), p8 (x / 256 % 256), p8 (x / 256 / 256 % 256), p8 (x / 256 / 256 / 256 % 256), p8 (x / 256 / 256 / 256 / 256 % 256), p8 (x / 256 / 256 / 256 / 256 / 256 % 256), p8 (x / 256 / 256 / 256 / 256 / 256 / 256 % 256), p8 (x / 256 / 256 / 256 / 256 / 256 / 256 / 256 % 256), p8_le _ (by omega), p8_le _ (by omega), p8_le _ (by omega), p8_le _ (by omega), p8_le _ (by omega), p8_le _ (by omega), p8_le _ (by omega), p8_le _ (by omega), ?_, ?_⟩
  · simp only [pS]
    omega
  · simp only [pcN_s]
    rw [show ∀ y, pcN 0 y = 0 from fun y => rfl]
    omega
/-- a bit of a long, and how many there are -/
def bt (x : Int64) (e : Nat) : Bool := x.toBitVec.getLsbD e
def pc (x : Int64) : Nat := (List.range 64).countP (fun e => bt x e)
theorem pc_N (x : Int64) : pc x = pcN 8 x.toBitVec.toNat := rfl
theorem lsr_nat (x : Int64) (k : Nat) (s : Int32) (hs : ((s.toInt64.toUInt64 &&& Int64.toUInt64 63).toBitVec % 64#64).toNat = k) : (o_lushr x s).toBitVec.toNat = x.toBitVec.toNat / 2 ^ k := by
  show (x.toBitVec >>> ((s.toInt64.toUInt64 &&& Int64.toUInt64 63).toBitVec % 64#64)).toNat = _
  rw [BitVec.ushiftRight_eq', BitVec.toNat_ushiftRight, hs, Nat.shiftRight_eq_div_pow]
theorem dv_m (A b n : Nat) (h : b < n) : (A * n + b) / n = A := by
  rw [Nat.mul_comm, Nat.mul_add_div (by omega), Nat.div_eq_of_lt h, Nat.add_zero]
theorem ad_2 {a b c d x y : Nat} (h1 : a = c * 256 + x) (h2 : b = d * 256 + y) : a + b = (c + d) * 256 + (x + y) := by
  rw [h1, h2, Nat.add_mul]
  omega
theorem sm_2 {a b : Nat} (ha : a ≤ 8) (hb : b ≤ 8) : a + b < 256 := by omega
theorem sm_4 {a b c d : Nat} (ha : a ≤ 8) (hb : b ≤ 8) (hc : c ≤ 8) (hd : d ≤ 8) : a + b + (c + d) < 256 := by omega
theorem sm_8 {T a b c d e f g h : Nat} (ha : a ≤ 8) (hb : b ≤ 8) (hc : c ≤ 8) (hd : d ≤ 8) (he : e ≤ 8) (hf : f ≤ 8) (hg : g ≤ 8) (hh : h ≤ 8) : (T * 256 + (a + b + (c + d) + (e + f + (g + h)))) % 2 ^ 7 = a + b + c + d + e + f + g + h := by omega
theorem pop_fin {p0 p1 p2 p3 p4 p5 p6 p7 v3 v4 v5 v6 : Nat} (h0 : p0 ≤ 8) (h1 : p1 ≤ 8) (h2 : p2 ≤ 8) (h3 : p3 ≤ 8) (h4 : p4 ≤ 8) (h5 : p5 ≤ 8) (h6 : p6 ≤ 8) (h7 : p7 ≤ 8) (n3 : v3 = ((((((p7 * 256 + p6) * 256 + p5) * 256 + p4) * 256 + p3) * 256 + p2) * 256 + p1) * 256 + p0) (n4 : v4 = v3 + v3 / 256) (n5 : v5 = v4 + v4 / 65536) (n6 : v6 = v5 + v5 / 4294967296) : v6 % 2 ^ 32 % 2 ^ 7 = p0 + p1 + p2 + p3 + p4 + p5 + p6 + p7 := by
  obtain ⟨A6, g6⟩ : ∃ z, z = p7 * 256 + p6 := ⟨_, rfl⟩
  obtain ⟨A5, g5⟩ : ∃ z, z = A6 * 256 + p5 := ⟨_, rfl⟩
  obtain ⟨A4, g4⟩ : ∃ z, z = A5 * 256 + p4 := ⟨_, rfl⟩
  obtain ⟨A3, g3⟩ : ∃ z, z = A4 * 256 + p3 := ⟨_, rfl⟩
  obtain ⟨A2, g2⟩ : ∃ z, z = A3 * 256 + p2 := ⟨_, rfl⟩
  obtain ⟨A1, g1⟩ : ∃ z, z = A2 * 256 + p1 := ⟨_, rfl⟩
  rw [← g6, ← g5, ← g4, ← g3, ← g2, ← g1] at n3
  have g7 : p7 = 0 * 256 + p7 := by rw [Nat.zero_mul, Nat.zero_add]
  have a1 : v3 / 256 = A1 := by rw [n3]; exact dv_m _ _ _ (Nat.lt_of_le_of_lt h0 (by decide))
  have q4 : v4 = (A1 + A2) * 256 + (p0 + p1) := by rw [n4, a1]; exact ad_2 n3 g1
  have r1 := ad_2 g1 g2
  have r2 := ad_2 g2 g3
  have r3 := ad_2 g3 g4
  have r4 := ad_2 g4 g5
  have r5 := ad_2 g5 g6
  have r6 := ad_2 g6 g7
  have a2 : v4 / 65536 = A2 + A3 := by
    rw [show (65536 : Nat) = 256 * 256 from rfl, ← Nat.div_div_eq_div_mul, q4, dv_m _ _ _ (sm_2 h0 h1), r1, dv_m _ _ _ (sm_2 h1 h2)]
  have q5 : v5 = (A1 + A2 + (A3 + A4)) * 256 + (p0 + p1 + (p2 + p3)) := by rw [n5, a2]; exact ad_2 q4 r2
  have t1 := ad_2 r1 r3
  have t2 := ad_2 r2 r4
  have t3 := ad_2 r3 r5
  have t4 := ad_2 r4 r6
  have a3 : v5 / 4294967296 = A4 + A5 + (A6 + p7) := by
    rw [show (4294967296 : Nat) = 256 * 256 * 256 * 256 from rfl, ← Nat.div_div_eq_div_mul, ← Nat.div_div_eq_div_mul, ← Nat.div_div_eq_div_mul, q5, dv_m _ _ _ (sm_4 h0 h1 h2 h3), t1, dv_m _ _ _ (sm_4 h1 h2 h3 h4), t2, dv_m _ _ _ (sm_4 h2 h3 h4 h5), t3, dv_m _ _ _ (sm_4 h3 h4 h5 h6)]
  have q6 := ad_2 q5 t4
  rw [← a3, ← n6] at q6
  rw [q6, Nat.mod_mod_of_dvd _ (by decide)]
  exact sm_8 h0 h1 h2 h3 h4 h5 h6 h7
theorem bitCount_eq (x : Int64) : f_J13_bitCount_95d88 x = some (nI (pc x)) := by
  unfold f_J13_bitCount_95d88
  simp only [Option.bind_some]
  have hx := x.toBitVec.isLt
  generalize hX : x.toBitVec.toNat = X at hx
  obtain ⟨p0, p1, p2, p3, p4, p5, p6, p7, h0, h1, h2, h3, h4, h5, h6, h7, hS, hC⟩ := pop_end X hx
  have hz := pz_S 8 X hx
  rw [pc_N, hX, hC]
  generalize e1 : x - ((o_lushr x (nI 1)) &&& (6148914691236517205 : Int64)) = v1
  have n1 : v1.toBitVec.toNat = py 8 X := by
    rw [← e1]
    show (x.toBitVec - ((o_lushr x (nI 1)).toBitVec &&& (6148914691236517205 : Int64).toBitVec)).toNat = _
    have hle : ((o_lushr x (nI 1)).toBitVec &&& (6148914691236517205 : Int64).toBitVec).toNat = (X / 2) &&& pm5 8 := by
      rw [BitVec.toNat_and, lsr_nat x 1 (nI 1) (by decide), hX]
      rfl
    have hl2 : (X / 2) &&& pm5 8 ≤ X := Nat.le_trans Nat.and_le_left (by omega)
    rw [BitVec.toNat_sub, hle, hX]
    unfold py
    omega
  have b1 : py 8 X ≤ X := Nat.sub_le _ _
  generalize e2 : (v1 &&& (3689348814741910323 : Int64)) + ((o_lushr v1 (nI 2)) &&& (3689348814741910323 : Int64)) = v2
  have n2 : v2.toBitVec.toNat = pb 8 (py 8 X) := by
    rw [← e2]
    show ((v1.toBitVec &&& (3689348814741910323 : Int64).toBitVec) + ((o_lushr v1 (nI 2)).toBitVec &&& (3689348814741910323 : Int64).toBitVec)).toNat = _
    rw [BitVec.toNat_add, BitVec.toNat_and, BitVec.toNat_and, lsr_nat v1 2 (nI 2) (by decide), n1]
    show (((py 8 X) &&& pm3 8) + ((py 8 X / 4) &&& pm3 8)) % 2 ^ 64 = _
    have a1 : (py 8 X) &&& pm3 8 ≤ pm3 8 := Nat.and_le_right
    have a2 : (py 8 X / 4) &&& pm3 8 ≤ pm3 8 := Nat.and_le_right
    have a3 : pm3 8 = 3689348814741910323 := by decide
    unfold pb
    rw [Nat.mod_eq_of_lt (by omega)]
  have b2 : pb 8 (py 8 X) ≤ 2 * 3689348814741910323 := by
    have a1 : (py 8 X) &&& pm3 8 ≤ pm3 8 := Nat.and_le_right
    have a2 : (py 8 X / 4) &&& pm3 8 ≤ pm3 8 := Nat.and_le_right
    have a3 : pm3 8 = 3689348814741910323 := by decide
    unfold pb
    omega
  generalize e3 : (v2 + (o_lushr v2 (nI 4))) &&& (1085102592571150095 : Int64) = v3
  have n3 : v3.toBitVec.toNat = pS 8 X := by
    rw [← e3, ← hz]
    show ((v2.toBitVec + (o_lushr v2 (nI 4)).toBitVec) &&& (1085102592571150095 : Int64).toBitVec).toNat = _
    rw [BitVec.toNat_and, BitVec.toNat_add, lsr_nat v2 4 (nI 4) (by decide), n2, Nat.mod_eq_of_lt (by omega)]
    rfl
  rw [hS] at n3
  generalize e4 : v3 + o_lushr v3 (nI 8) = v4
  have n4 : v4.toBitVec.toNat = v3.toBitVec.toNat + v3.toBitVec.toNat / 256 := by
    rw [← e4]
    show (v3.toBitVec + (o_lushr v3 (nI 8)).toBitVec).toNat = _
    rw [BitVec.toNat_add, lsr_nat v3 8 (nI 8) (by decide), Nat.mod_eq_of_lt (by omega)]
  generalize e5 : v4 + o_lushr v4 (nI 16) = v5
  have n5 : v5.toBitVec.toNat = v4.toBitVec.toNat + v4.toBitVec.toNat / 65536 := by
    rw [← e5]
    show (v4.toBitVec + (o_lushr v4 (nI 16)).toBitVec).toNat = _
    rw [BitVec.toNat_add, lsr_nat v4 16 (nI 16) (by decide), Nat.mod_eq_of_lt (by omega)]
  generalize e6 : v5 + o_lushr v5 (nI 32) = v6
  have n6 : v6.toBitVec.toNat = v5.toBitVec.toNat + v5.toBitVec.toNat / 4294967296 := by
    rw [← e6]
    show (v5.toBitVec + (o_lushr v5 (nI 32)).toBitVec).toNat = _
    rw [BitVec.toNat_add, lsr_nat v5 32 (nI 32) (by decide), Nat.mod_eq_of_lt (by omega)]
  have q6 := pop_fin h0 h1 h2 h3 h4 h5 h6 h7 n3 n4 n5 n6
  congr 1
  rw [pk_and v6.toInt32 7 (by decide)]
  congr 1
  rw [show v6.toInt32.toBitVec = v6.toBitVec.signExtend 32 from rfl, BitVec.signExtend_eq_setWidth_of_le _ (by decide), BitVec.toNat_setWidth]
  exact q6
