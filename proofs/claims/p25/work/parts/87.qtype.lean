/-! THE LAW'S STEPS: a text typed, a puzzle set -/
theorem tk_app : ∀ (A B : List Int32) (p : Nat), tk (A ++ B) p = tk A p ++ tk B (p + A.length) := by
  intro A
  induction A with
  | nil => intro B p; rfl
  | cons a A ih =>
    intro B p
    show (if a = nI 32 then tk (A ++ B) (p + 1) else (a, p) :: tk (A ++ B) (p + 1)) = (if a = nI 32 then tk A (p + 1) else (a, p) :: tk A (p + 1)) ++ tk B (p + (A.length + 1))
    rw [ih, show p + 1 + A.length = p + (A.length + 1) by omega]
    by_cases c : a = nI 32
    · rw [if_pos c, if_pos c]
    · rw [if_neg c, if_neg c]; rfl
def RD (T : List Int32) (col width rows : Nat) (acc : List Int32) : Prop := ∀ (N : Nat) (ts : List (Int32 × Nat)), rdT N (tk T 0 ++ ts) 0 4 1 [] = rdT N ts col width rows acc
theorem RD_nil : RD [] 0 4 1 [] := fun _ _ => rfl
theorem RD_sp {T : List Int32} {col width rows : Nat} {acc : List Int32} (r : RD T col width rows acc) : RD (T ++ [nI 32]) col width rows acc := by
  intro N ts
  have e : ∀ k, tk [nI 32] k = [] := fun k => if_pos rfl
  rw [tk_app, e, List.append_nil]
  exact r N ts
theorem tk_1 {c : Int32} (h : ¬ c = nI 32) (k : Nat) : tk [c] k = [(c, k)] := if_neg h
theorem RD_cell {T : List Int32} {col width rows : Nat} {acc : List Int32} {c : Int32} (r : RD T col width rows acc) (h32 : ¬ c = nI 32) (h47 : ¬ c = nI 47) (hC : isC c = true) (hcol : col < width) (hacc : acc.length < 16) : RD (T ++ [c]) (col + 1) width rows (acc ++ [vlC c]) := by
  intro N ts
  rw [tk_app, tk_1 h32, List.append_assoc, r N]
  show (if c = nI 47 then _ else if isC c then (if width ≤ col then _ else if acc.length < 16 then rdT N ts (col + 1) width rows (acc ++ [vlC c]) else _) else _) = _
  rw [if_neg h47, if_pos hC, if_neg (by omega), if_pos hacc]
theorem RD_slash {T : List Int32} {col width rows : Nat} {acc : List Int32} (r : RD T col width rows acc) (he : erB col width rows = true) (h4 : rows ≠ 4) : RD (T ++ [nI 47]) 0 col (rows + 1) acc := by
  intro N ts
  rw [tk_app, tk_1 (by decide), List.append_assoc, r N]
  show (if nI 47 = nI 47 then (if erB col width rows then (if rows = 4 then _ else rdT N ts 0 col (rows + 1) acc) else _) else _) = _
  rw [if_pos rfl, if_pos he, if_neg h4]
theorem RD_end {T : List Int32} {col width rows : Nat} {acc : List Int32} (r : RD T col width rows acc) : rdT T.length (tk T 0) 0 4 1 [] = if erB col width rows then .inl (col, rows, acc) else .inr T.length := by
  have e := r T.length []
  rw [List.append_nil] at e
  rw [e]
  rfl
theorem RD_no {T : List Int32} {col width rows : Nat} {acc : List Int32} (r : RD T col width rows acc) (he : erB col width rows = false) : fltV T = nI T.length := by
  unfold fltV
  rw [RD_end r, he]
  rfl
theorem RD_ok {T : List Int32} {col width rows : Nat} {acc : List Int32} (r : RD T col width rows acc) (he : erB col width rows = true) : fltV T = -1 := by
  unfold fltV
  rw [RD_end r, he]
  rfl
def QG (σ : vSt) (cv : Nat → Int32) (W H : Nat) : Prop := gI σ 30 0 = nI W ∧ gI σ 30 1 = nI H ∧ (∀ k, k < 16 → gI σ 30 (2 + k) = cv k) ∧ ∀ e, e < 40 → gI σ 30 (18 + e) = nI 0
theorem QG.same {σ σ' : vSt} {cv : Nat → Int32} {W H : Nat} (q : QG σ cv W H) (e : ∀ j, gI σ' 30 j = gI σ 30 j) : QG σ' cv W H := ⟨(e 0).trans q.1, (e 1).trans q.2.1, fun k hk => (e _).trans (q.2.2.1 k hk), fun k hk => (e _).trans (q.2.2.2 k hk)⟩
theorem QG.mg {σ' σ0 : vSt} {cv : Nat → Int32} {W H : Nat} (q : QG σ0 cv W H) : QG (mergeS 30 σ' σ0) cv W H := q.same (fun j => mg_ge 30 σ' σ0 j (by decide))
theorem ch_ok {v : Int32} (h : cok v) : ∃ k, k ≤ 127 ∧ ((if nI 0 ≤ v then some (nI 48 + v) else some (nI 46)) : Option Int32) = some (nI k) ∧ ¬ nI k = nI 32 ∧ ¬ nI k = nI 47 ∧ isC (nI k) = true ∧ vlC (nI k) = v := by
  rcases h with h | h | h | h | h
  · exact ⟨46, by decide, by rw [h]; decide, by decide, by decide, by decide, by rw [h]; decide⟩
  · exact ⟨48, by decide, by rw [h]; decide, by decide, by decide, by decide, by rw [h]; decide⟩
  · exact ⟨49, by decide, by rw [h]; decide, by decide, by decide, by decide, by rw [h]; decide⟩
  · exact ⟨50, by decide, by rw [h]; decide, by decide, by decide, by decide, by rw [h]; decide⟩
  · exact ⟨51, by decide, by rw [h]; decide, by decide, by decide, by decide, by rw [h]; decide⟩
theorem t_type {σ : vSt} {w h : Nat} {cnt : Nat → Int32} {mk : Nat → Nat} {T : List Int32} {cv : Nat → Int32} {W H : Nat} (z : PZ σ w h cnt mk T) (q : QG σ cv W H) {k : Nat} (hk : k ≤ 127) (hT : T.length < 40) : ∃ σ', f_X6_type (nI k) σ = some (nI (T.length + 1), σ') ∧ PZ (mergeS 30 σ' σ) w h cnt mk (T ++ [nI k]) ∧ QG (mergeS 30 σ' σ) cv W H := by
  obtain ⟨σ', e, z'⟩ := z_type z hk hT
  exact ⟨σ', e, z'.mg, q.mg⟩
theorem el_app {acc : List Int32} {cv : Nat → Int32} {n : Nat} (hn : acc.length = n) (h : ∀ k, k < n → acc[k]? = some (cv k)) : ∀ k, k < n + 1 → (acc ++ [cv n])[k]? = some (cv k) := by
  intro k hk
  by_cases c : k < n
  · rw [List.getElem?_append_left (by omega)]; exact h k c
  · rw [List.getElem?_append_right (by omega), show k - acc.length = 0 by omega, show k = n by omega]; rfl
theorem q_types89 {w h : Nat} {cnt : Nat → Int32} {mk : Nat → Nat} {cv : Nat → Int32} {W H r wd : Nat} (hcv : ∀ k, cok (cv k)) (hW1 : 1 ≤ W) (hW4 : W ≤ 4) (hr : r < 4) (hwd : W ≤ wd) : ∀ (n c : Nat) (σ : vSt) (T acc : List Int32), PZ σ w h cnt mk T → QG σ cv W H → c ≤ W → W < c + n → RD T c wd (r + 1) acc → acc.length = r * W + c → (∀ k, k < r * W + c → acc[k]? = some (cv k)) → T.length ≤ 7 * r + 1 + c + (c + 2) / 3 → ∃ σ' T' acc', f_L_types_89x53 (nI r) n (nI 1) (nI c) σ = some (nI 1, σ') ∧ PZ σ' w h cnt mk T' ∧ QG σ' cv W H ∧ RD T' W wd (r + 1) acc' ∧ acc'.length = r * W + W ∧ (∀ k, k < r * W + W → acc'[k]? = some (cv k)) ∧ T'.length ≤ 7 * (r + 1) := by
  have hrW : r * W ≤ 3 * 4 := Nat.mul_le_mul (by omega) hW4
  intro n
  induction n with
  | zero => intro c σ T acc z q a b; omega
  | succ n ih =>
    intro c σ T acc z q a b hR hacc hel hT
    rw [f_L_types_89x53.eq_2, q.1]
    by_cases y : W ≤ c
    · rw [if_pos ((nI_leI (by omega) (by omega)).mpr y)]
      have hc : c = W := by omega
      subst hc
      exact ⟨σ, T, acc, rfl, z, q, hR, hacc, hel, by omega⟩
    · have hc : c < W := by omega
      have hlt : r * W + c < 16 := by omega
      rw [if_neg (by rw [nI_leI (by omega) (by omega)]; exact y), nI_mul, nI_add, nI_add, if_pos (ig (by omega) (by omega)), nI_clamp (by omega), Nat.add_assoc, q.2.2.1 _ hlt, pk_rem (by omega) (by decide) (by decide), nI_1 c]
      simp only [ob]
      rw [if_neg (show ¬ nI 1 = nI 0 by decide)]
      obtain ⟨k, hk, ek, k32, k47, kC, kv⟩ := ch_ok (hcv (r * W + c))
      have hstep : ∀ (σ1 : vSt) (T1 : List Int32), PZ σ1 w h cnt mk T1 → QG σ1 cv W H → RD T1 c wd (r + 1) acc → T1.length ≤ 7 * r + 1 + c + (c + 3) / 3 → ∃ σ2, f_X6_type (nI k) σ1 = some (nI (T1.length + 1), σ2) ∧ ∃ σ' T' acc', f_L_types_89x53 (nI r) n (nI 1) (nI (c + 1)) (mergeS 30 σ2 σ1) = some (nI 1, σ') ∧ PZ σ' w h cnt mk T' ∧ QG σ' cv W H ∧ RD T' W wd (r + 1) acc' ∧ acc'.length = r * W + W ∧ (∀ k, k < r * W + W → acc'[k]? = some (cv k)) ∧ T'.length ≤ 7 * (r + 1) := by
        intro σ1 T1 z1 q1 R1 l1
        obtain ⟨σ2, e2, z2, q2⟩ := t_type z1 q1 hk (by omega)
        refine ⟨σ2, e2, ?_⟩
        have R2 := RD_cell R1 k32 k47 kC (by omega) (by rw [hacc]; exact hlt)
        rw [kv] at R2
        exact ih (c + 1) _ _ _ z2 q2 (by omega) (by omega) R2 (by rw [List.length_append, hacc]; rfl) (el_app hacc hel) (by rw [List.length_append]; show T1.length + 1 ≤ _; omega)
      by_cases m : c % 3 = 0
      · rw [m, if_neg (show ¬ nI 0 < nI 0 by decide)]
        obtain ⟨σ1, e1, z1, q1⟩ := t_type z q (k := 32) (by decide) (by omega)
        rw [e1]
        simp only [ob]
        rw [if_neg (by rw [nI_leI (by omega) (by decide)]; omega), ek]
        simp only [ob]
        obtain ⟨σ2, e2, σ', T', acc', g1, g2⟩ := hstep _ _ z1 q1 (RD_sp hR) (by rw [List.length_append]; show T.length + 1 ≤ _; omega)
        rw [e2]
        simp only [ob]
        rw [if_neg (by rw [nI_leI (by rw [List.length_append]; show T.length + 1 + 1 < _; omega) (by decide)]; omega)]
        exact ⟨σ', T', acc', g1, g2⟩
      · rw [if_pos ((nI_ltI (by decide) (by omega)).mpr (by omega)), ek]
        simp only [ob]
        obtain ⟨σ2, e2, σ', T', acc', g1, g2⟩ := hstep _ _ z q hR (by omega)
        rw [e2]
        simp only [ob]
        rw [if_neg (by rw [nI_leI (by omega) (by decide)]; omega)]
        exact ⟨σ', T', acc', g1, g2⟩
def RSt (T : List Int32) (W wd r : Nat) (acc : List Int32) : Prop := (r = 0 ∧ T = [] ∧ acc = []) ∨ (1 ≤ r ∧ RD T W wd r acc ∧ (r ≠ 1 → wd = W))
theorem q_types39 {w h : Nat} {cnt : Nat → Int32} {mk : Nat → Nat} {cv : Nat → Int32} {W H : Nat} (hcv : ∀ k, cok (cv k)) (hW1 : 1 ≤ W) (hW4 : W ≤ 4) (hH4 : H ≤ 4) : ∀ (n r wd : Nat) (σ : vSt) (T acc : List Int32), PZ σ w h cnt mk T → QG σ cv W H → r ≤ H → H < r + n → RSt T W wd r acc → acc.length = r * W → (∀ k, k < r * W → acc[k]? = some (cv k)) → T.length ≤ 7 * r → ∃ σ' T' acc' wd', f_L_types_39 n (nI 1) (nI r) σ = some (nI 1, σ') ∧ PZ σ' w h cnt mk T' ∧ QG σ' cv W H ∧ RSt T' W wd' H acc' ∧ acc'.length = H * W ∧ ∀ k, k < H * W → acc'[k]? = some (cv k) := by
  intro n
  induction n with
  | zero => intro r wd σ T acc z q a b; omega
  | succ n ih =>
    intro r wd σ T acc z q a b hS hacc hel hT
    rw [f_L_types_39.eq_2, q.2.1]
    by_cases y : H ≤ r
    · rw [if_pos ((nI_leI (by omega) (by omega)).mpr y)]
      have hr : r = H := by omega
      subst hr
      exact ⟨σ, T, acc, wd, rfl, z, q, hS, hacc, hel⟩
    · have hr : r < H := by omega
      rw [if_neg (by rw [nI_leI (by omega) (by omega)]; exact y), if_neg (show ¬ nI 1 = nI 0 by decide), nI_1 r]
      have hgo : ∀ (wd1 : Nat) (σ1 : vSt) (T1 : List Int32), PZ σ1 w h cnt mk T1 → QG σ1 cv W H → W ≤ wd1 → RD T1 0 wd1 (r + 1) acc → T1.length ≤ 7 * r + 1 → (r + 1 ≠ 1 → wd1 = W) → ∃ σ' T' acc' wd', ((f_L_types_89x53 (nI r) 600 (nI 1) (nI 0) σ1).bind fun φ56 => match φ56 with | (v51, σ52) => f_L_types_39 n v51 (nI (r + 1)) σ52) = some (nI 1, σ') ∧ PZ σ' w h cnt mk T' ∧ QG σ' cv W H ∧ RSt T' W wd' H acc' ∧ acc'.length = H * W ∧ ∀ k, k < H * W → acc'[k]? = some (cv k) := by
        intro wd1 σ1 T1 z1 q1 w1 R1 l1 d1
        obtain ⟨σ2, T2, acc2, e2, z2, q2, R2, la, el, lT⟩ := q_types89 (H := H) hcv hW1 hW4 (by omega) w1 600 0 σ1 T1 acc z1 q1 (Nat.zero_le _) (by omega) R1 (by rw [hacc]; rfl) (by rw [Nat.add_zero]; exact hel) (by omega)
        have e2' : f_L_types_89x53 (nI r) 600 (nI 1) (nI 0) σ1 = some (nI 1, σ2) := e2
        rw [e2']
        simp only [ob]
        rw [← Nat.succ_mul] at la el
        exact ih (r + 1) wd1 σ2 T2 acc2 z2 q2 (by omega) (by omega) (Or.inr ⟨by omega, R2, d1⟩) la el (by omega)
      rcases hS with ⟨r0, hT0, ha0⟩ | ⟨r1, R1, d1⟩
      · subst r0
        subst hT0
        subst ha0
        obtain ⟨σ1, e1, z1⟩ := z_fault z
        have z1' := z1.mg (σ0 := σ)
        rw [if_pos (show nI 0 = nI 0 from rfl), e1, RD_no RD_nil rfl]
        simp only [ob]
        rw [z_count15 z1']
        simp only [ob]
        rw [if_pos trivial]
        simp only [ob]
        exact hgo 4 _ [] z1' q.mg hW4 RD_nil (by show 0 ≤ _; omega) (fun x => absurd rfl x)
      · have hE : erB W wd r = true := by
          unfold erB
          by_cases c : r = 1
          · rw [if_pos c]; exact decide_eq_true (by omega)
          · rw [if_neg c]; exact decide_eq_true (d1 c).symm
        have hE0 : erB 0 W (r + 1) = false := by
          unfold erB
          rw [if_neg (by omega)]
          exact decide_eq_false (by omega)
        have R2 := RD_slash R1 hE (by omega)
        rw [if_neg (by rw [nI_eq (by omega) (by decide)]; omega)]
        obtain ⟨σ1, e1, z1, q1⟩ := t_type z q (k := 47) (by decide) (by omega)
        rw [e1]
        simp only [ob]
        rw [if_neg (by rw [nI_leI (by omega) (by decide)]; omega)]
        obtain ⟨σ2, e2, z2⟩ := z_fault z1
        have z2' := z2.mg (σ0 := mergeS 30 σ1 σ)
        rw [e2, RD_no R2 hE0]
        simp only [ob]
        rw [z_count15 z2']
        simp only [ob]
        rw [if_pos trivial]
        simp only [ob]
        exact hgo W _ _ z2' q1.mg (Nat.le_refl _) R2 (by rw [List.length_append]; show T.length + 1 ≤ _; omega) (fun _ => rfl)
