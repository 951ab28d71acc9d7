/-! THE LAW'S ROW OF ITS OWN: geometry -/
def stP (w h : Nat) : vSt := (fun q j => if q = 30 then (if j = 0 then nI w else if j = 1 then nI h else 0) else 0, fun _ _ => 0)
def PD (σ : vSt) (w h : Nat) : Prop := gI σ 30 0 = nI w ∧ gI σ 30 1 = nI h ∧ dim w h
theorem q_dims_dec : dimAll (fun w h => decide (f_L_vertical (stP w h) = some (nI (gV w h))) && (decide (f_L_edges (stP w h) = some (nI (gE w h))) && decide (f_L_corners (stP w h) = some (nI (gK w h))))) = true := by decide +kernel
theorem q_ends_dec : dimAll (fun w h => allLt (gE w h) fun e => decide (f_L_ends (nI e) (stP w h) = some (nI (32 * gEn w h e 0 + gEn w h e 1)))) = true := by decide +kernel
theorem q_isAt_dec : dimAll (fun w h => allLt (gE w h) fun e => allLt (gK w h) fun k => decide (f_L_isAt (nI e) (nI k) (stP w h) = some (if gEn w h e 0 = k ∨ gEn w h e 1 = k then nI 1 else nI 0))) = true := by decide +kernel
theorem q_isAround_dec : dimAll (fun w h => allLt (gE w h) fun e => allLt (gC w h) fun c => decide (f_L_isAround (nI e) (nI c) (stP w h) = some (if e ∈ gArL w h c then nI 1 else nI 0))) = true := by decide +kernel
theorem q_split_dec : (allLt 25 fun a => allLt 25 fun b => decide (nI (32 * a + b) / nI 32 = nI a) && decide (nI (32 * a + b) - nI (32 * a + b) / nI 32 * nI 32 = nI b)) = true := by decide +kernel
theorem q_split {a b : Nat} (ha : a < 25) (hb : b < 25) : nI (32 * a + b) / nI 32 = nI a ∧ nI (32 * a + b) - nI (32 * a + b) / nI 32 * nI 32 = nI b := by
  have h := allLt_of (allLt_of q_split_dec ha) hb
  exact ⟨of_decide_eq_true (and_l h), of_decide_eq_true (and_r h)⟩
theorem q_edges {σ : vSt} {w h : Nat} (hd : PD σ w h) : f_L_edges σ = some (nI (gE w h)) := by
  rw [← of_decide_eq_true (and_l (and_r (dimAll_of q_dims_dec hd.2.2)))]
  unfold f_L_edges f_L_vertical
  rw [hd.1, hd.2.1]; rfl
theorem q_corners {σ : vSt} {w h : Nat} (hd : PD σ w h) : f_L_corners σ = some (nI (gK w h)) := by
  rw [← of_decide_eq_true (and_r (and_r (dimAll_of q_dims_dec hd.2.2)))]
  unfold f_L_corners
  rw [hd.1, hd.2.1]; rfl
theorem q_ends {σ : vSt} {w h : Nat} (hd : PD σ w h) {e : Nat} (he : e < gE w h) : f_L_ends (nI e) σ = some (nI (32 * gEn w h e 0 + gEn w h e 1)) := by
  rw [← of_decide_eq_true (allLt_of (dimAll_of q_ends_dec hd.2.2) he)]
  unfold f_L_ends f_L_vertical
  rw [hd.1, hd.2.1]; rfl
theorem q_isAt {σ : vSt} {w h : Nat} (hd : PD σ w h) {e k : Nat} (he : e < gE w h) (hk : k < gK w h) : f_L_isAt (nI e) (nI k) σ = some (if gEn w h e 0 = k ∨ gEn w h e 1 = k then nI 1 else nI 0) := by
  rw [← of_decide_eq_true (allLt_of (allLt_of (dimAll_of q_isAt_dec hd.2.2) he) hk)]
  unfold f_L_isAt f_L_ends f_L_vertical
  rw [hd.1, hd.2.1]; rfl
theorem q_isAround {σ : vSt} {w h : Nat} (hd : PD σ w h) {e c : Nat} (he : e < gE w h) (hc : c < gC w h) : f_L_isAround (nI e) (nI c) σ = some (if e ∈ gArL w h c then nI 1 else nI 0) := by
  rw [← of_decide_eq_true (allLt_of (allLt_of (dimAll_of q_isAround_dec hd.2.2) he) hc)]
  unfold f_L_isAround f_L_ends f_L_vertical
  rw [hd.1, hd.2.1]; rfl
theorem q_end0 {w h e : Nat} (hd : dim w h) (he : e < gE w h) : nI (32 * gEn w h e 0 + gEn w h e 1) / nI 32 = nI (gEn w h e 0) ∧ nI (32 * gEn w h e 0 + gEn w h e 1) - nI (32 * gEn w h e 0 + gEn w h e 1) / nI 32 * nI 32 = nI (gEn w h e 1) := by
  have h25 := gK_25 hd
  have h0 := gEn_lt hd he (s := 0) (by decide)
  have h1 := gEn_lt hd he (s := 1) (by decide)
  exact q_split (by omega) (by omega)
/-! the marks and counts in it -/
def PG (σ : vSt) (w h : Nat) (cnt : Nat → Int32) (mk : Nat → Nat) : Prop := PD σ w h ∧ (∀ k, k < gC w h → gI σ 30 (2 + k) = cnt k) ∧ (∀ e, e < gE w h → gI σ 30 (18 + e) = nI (mk e)) ∧ (∀ e, mk e < 3) ∧ ∀ k, cok (cnt k)
theorem PG.same {σ σ' : vSt} {w h : Nat} {cnt : Nat → Int32} {mk : Nat → Nat} (p : PG σ w h cnt mk) (e : ∀ j, gI σ' 30 j = gI σ 30 j) : PG σ' w h cnt mk := ⟨⟨(e 0).trans p.1.1, (e 1).trans p.1.2.1, p.1.2.2⟩, fun k hk => (e _).trans (p.2.1 k hk), fun k hk => (e _).trans (p.2.2.1 k hk), p.2.2.2⟩
theorem cnP_ar {w h c v : Nat} {mk : Nat → Nat} (hd : dim w h) (hc : c < gC w h) : cnP (gE w h) (fun e => mk e = v ∧ e ∈ gArL w h c) = nAr w h mk c v := by
  unfold nAr
  rw [← cr_list (fun e => decide (mk e = v)) (gE w h) (gArL w h c) ((gArL_pw hd hc).imp (fun z => Nat.ne_of_lt z)) (fun e he => by
    unfold gArL at he
    simp only [List.mem_cons, List.not_mem_nil, or_false] at he
    rcases he with rfl | rfl | rfl | rfl
    · exact gAr_lt hd hc (by decide)
    · exact gAr_lt hd hc (by decide)
    · exact gAr_lt hd hc (by decide)
    · exact gAr_lt hd hc (by decide))]
  unfold cnP
  refine List.countP_congr (fun e _ => ?_)
  refine (@decide_eq_true_iff _ (Classical.propDecidable _)).trans ?_
  show (mk e = v ∧ e ∈ gArL w h c) ↔ _
  rw [Bool.and_eq_true, decide_eq_true_iff, decide_eq_true_iff]
  exact ⟨fun z => ⟨z.2, z.1⟩, fun z => ⟨z.2, z.1⟩⟩
theorem cnP_to {w h k v : Nat} {mk : Nat → Nat} (hd : dim w h) (hk : k < gK w h) : cnP (gE w h) (fun e => mk e = v ∧ (gEn w h e 0 = k ∨ gEn w h e 1 = k)) = nTo w h mk k v := by
  unfold nTo
  rw [← cr_list (fun e => decide (mk e = v)) (gE w h) (gToL w h k) ((gToL_pw hd hk).imp (fun z => Nat.ne_of_lt z)) (fun e he => gToL_lt hd hk he)]
  unfold cnP
  refine List.countP_congr (fun e he => ?_)
  refine (@decide_eq_true_iff _ (Classical.propDecidable _)).trans ?_
  show (mk e = v ∧ (gEn w h e 0 = k ∨ gEn w h e 1 = k)) ↔ _
  rw [Bool.and_eq_true, decide_eq_true_iff, decide_eq_true_iff, gToL_iff hd hk (List.mem_range.mp he)]
  exact ⟨fun z => ⟨z.2, z.1⟩, fun z => ⟨z.2, z.1⟩⟩
theorem nI_iv {P : Prop} [Decidable P] : (if P then nI 1 else nI 0) = nI (iv P) := by
  by_cases h : P
  · rw [if_pos h, iv_t h]
  · rw [if_neg h, iv_f h]
theorem q_around5 {σ : vSt} {w h : Nat} {cnt : Nat → Int32} {mk : Nat → Nat} (p : PG σ w h cnt mk) {c v : Nat} (hc : c < gC w h) (hv : v < 3) : ∀ (n i : Nat), i ≤ gE w h → gE w h < i + n → f_L_around_5 (nI c) (nI v) σ n (nI (cnP i (fun e => mk e = v ∧ e ∈ gArL w h c))) (nI i) = some (nI (cnP (gE w h) (fun e => mk e = v ∧ e ∈ gArL w h c))) := by
  have hd := p.1.2.2
  have h40 := gE_40 hd
  intro n
  induction n with
  | zero => intro i a b; omega
  | succ n ih =>
    intro i a b
    rw [f_L_around_5.eq_2, q_edges p.1]
    simp only [ob]
    by_cases z : gE w h ≤ i
    · rw [if_pos ((nI_leI (by omega) (by omega)).mpr z), show i = gE w h by omega]
    · rw [if_neg (by rw [nI_leI (by omega) (by omega)]; exact z), nI_add, if_pos (ig (by omega) (by omega)), nI_clamp (by omega), p.2.2.1 i (by omega), q_isAround p.1 (by omega) hc]
      simp only [ob]
      have hm := p.2.2.2.1 i
      have e1 : ((if nI (mk i) = nI v then (if (if i ∈ gArL w h c then nI 1 else nI 0) = nI 0 then some (nI 0) else some (nI 1)) else some (nI 0)) : Option Int32) = some (nI (iv (mk i = v ∧ i ∈ gArL w h c))) := by
        by_cases y : mk i = v
        · rw [if_pos (by rw [y])]
          by_cases x : i ∈ gArL w h c
          · rw [if_pos x, if_neg (by decide), iv_t ⟨y, x⟩]
          · rw [if_neg x, if_pos rfl, iv_f (fun q => x q.2)]
        · rw [if_neg (by rw [nI_eq (by omega) (by omega)]; exact y), iv_f (fun q => y q.1)]
      rw [e1]
      simp only [ob]
      rw [nI_add, ← cnP_s, nI_1 i]
      exact ih (i + 1) (by omega) (by omega)
theorem q_around {σ : vSt} {w h : Nat} {cnt : Nat → Int32} {mk : Nat → Nat} (p : PG σ w h cnt mk) {c v : Nat} (hc : c < gC w h) (hv : v < 3) : f_L_around (nI c) (nI v) σ = some (nI (nAr w h mk c v)) := by
  have h40 := gE_40 p.1.2.2
  have e := q_around5 p hc hv 600 0 (Nat.zero_le _) (by omega)
  rw [cnP_0, cnP_ar p.1.2.2 hc] at e
  unfold f_L_around
  rw [e]
  simp only [ob]
theorem q_at5 {σ : vSt} {w h : Nat} {cnt : Nat → Int32} {mk : Nat → Nat} (p : PG σ w h cnt mk) {k v : Nat} (hk : k < gK w h) (hv : v < 3) : ∀ (n i : Nat), i ≤ gE w h → gE w h < i + n → f_L_at_5 (nI k) (nI v) σ n (nI (cnP i (fun e => mk e = v ∧ (gEn w h e 0 = k ∨ gEn w h e 1 = k)))) (nI i) = some (nI (cnP (gE w h) (fun e => mk e = v ∧ (gEn w h e 0 = k ∨ gEn w h e 1 = k)))) := by
  have hd := p.1.2.2
  have h40 := gE_40 hd
  intro n
  induction n with
  | zero => intro i a b; omega
  | succ n ih =>
    intro i a b
    rw [f_L_at_5.eq_2, q_edges p.1]
    simp only [ob]
    by_cases z : gE w h ≤ i
    · rw [if_pos ((nI_leI (by omega) (by omega)).mpr z), show i = gE w h by omega]
    · rw [if_neg (by rw [nI_leI (by omega) (by omega)]; exact z), nI_add, if_pos (ig (by omega) (by omega)), nI_clamp (by omega), p.2.2.1 i (by omega), q_isAt p.1 (by omega) hk]
      simp only [ob]
      have hm := p.2.2.2.1 i
      have e1 : ((if nI (mk i) = nI v then (if (if gEn w h i 0 = k ∨ gEn w h i 1 = k then nI 1 else nI 0) = nI 0 then some (nI 0) else some (nI 1)) else some (nI 0)) : Option Int32) = some (nI (iv (mk i = v ∧ (gEn w h i 0 = k ∨ gEn w h i 1 = k)))) := by
        by_cases y : mk i = v
        · rw [if_pos (by rw [y])]
          by_cases x : gEn w h i 0 = k ∨ gEn w h i 1 = k
          · rw [if_pos x, if_neg (by decide), iv_t ⟨y, x⟩]
          · rw [if_neg x, if_pos rfl, iv_f (fun q => x q.2)]
        · rw [if_neg (by rw [nI_eq (by omega) (by omega)]; exact y), iv_f (fun q => y q.1)]
      rw [e1]
      simp only [ob]
      rw [nI_add, ← cnP_s, nI_1 i]
      exact ih (i + 1) (by omega) (by omega)
theorem q_at {σ : vSt} {w h : Nat} {cnt : Nat → Int32} {mk : Nat → Nat} (p : PG σ w h cnt mk) {k v : Nat} (hk : k < gK w h) (hv : v < 3) : f_L_at (nI k) (nI v) σ = some (nI (nTo w h mk k v)) := by
  have h40 := gE_40 p.1.2.2
  have e := q_at5 p hk hv 600 0 (Nat.zero_le _) (by omega)
  rw [cnP_0, cnP_to p.1.2.2 hk] at e
  unfold f_L_at
  rw [e]
  simp only [ob]
theorem q_drawn4 {σ : vSt} {w h : Nat} {cnt : Nat → Int32} {mk : Nat → Nat} (p : PG σ w h cnt mk) : ∀ (n i : Nat), i ≤ gE w h → gE w h < i + n → f_L_drawn_4 σ n (nI (cnP i (fun e => mk e = 1))) (nI i) = some (nI (cnP (gE w h) (fun e => mk e = 1))) := by
  have hd := p.1.2.2
  have h40 := gE_40 hd
  intro n
  induction n with
  | zero => intro i a b; omega
  | succ n ih =>
    intro i a b
    rw [f_L_drawn_4.eq_2, q_edges p.1]
    simp only [ob]
    by_cases z : gE w h ≤ i
    · rw [if_pos ((nI_leI (by omega) (by omega)).mpr z), show i = gE w h by omega]
    · rw [if_neg (by rw [nI_leI (by omega) (by omega)]; exact z), nI_add, if_pos (ig (by omega) (by omega)), nI_clamp (by omega), p.2.2.1 i (by omega)]
      have hm := p.2.2.2.1 i
      have e1 : ((if nI (mk i) = nI 1 then some (nI 1) else some (nI 0)) : Option Int32) = some (nI (iv (mk i = 1))) := by
        by_cases y : mk i = 1
        · rw [if_pos (by rw [y]), iv_t y]
        · rw [if_neg (by rw [nI_eq (by omega) (by decide)]; exact y), iv_f y]
      rw [e1]
      simp only [ob]
      rw [nI_add, ← cnP_s, nI_1 i]
      exact ih (i + 1) (by omega) (by omega)
theorem q_drawn {σ : vSt} {w h : Nat} {cnt : Nat → Int32} {mk : Nat → Nat} (p : PG σ w h cnt mk) : f_L_drawn σ = some (nI (cnP (gE w h) (fun e => mk e = 1))) := by
  have h40 := gE_40 p.1.2.2
  have e := q_drawn4 p 600 0 (Nat.zero_le _) (by omega)
  rw [cnP_0] at e
  unfold f_L_drawn
  rw [e]
  simp only [ob]
