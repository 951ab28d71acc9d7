/-! THE LAW'S JOINS -/
def smW (W : Nat → Nat) : Nat → Nat
  | 0 => 0
  | n + 1 => smW W n + W n
theorem smW_le {W W' : Nat → Nat} : ∀ n, (∀ k, k < n → W' k ≤ W k) → smW W' n ≤ smW W n := by
  intro n
  induction n with
  | zero => intro _; exact Nat.le_refl _
  | succ n ih =>
    intro h
    have h1 := ih (fun k hk => h k (by omega))
    have h2 := h n (by omega)
    show smW W' n + W' n ≤ smW W n + W n
    omega
theorem smW_lt {W W' : Nat → Nat} {j : Nat} : ∀ n, (∀ k, k < n → W' k ≤ W k) → j < n → W' j < W j → smW W' n < smW W n := by
  intro n
  induction n with
  | zero => intro _ h _; omega
  | succ n ih =>
    intro h hj hlt
    have h2 := h n (by omega)
    show smW W' n + W' n < smW W n + W n
    by_cases c : j = n
    · have h1 := smW_le n (fun k hk => h k (by omega))
      rw [c] at hlt
      omega
    · have h1 := ih (fun k hk => h k (by omega)) (by omega) hlt
      omega
theorem smW_b {W : Nat → Nat} : ∀ n, n ≤ 40 → (∀ k, k < n → W k ≤ k) → smW W n ≤ 40 * n := by
  intro n
  induction n with
  | zero => intro _ _; exact Nat.le_refl _
  | succ n ih =>
    intro hn h
    have h1 := ih (by omega) (fun k hk => h k (by omega))
    have h2 := h n (by omega)
    show smW W n + W n ≤ 40 * (n + 1)
    omega
def mt (w h e f : Nat) : Prop := gEn w h f 0 = gEn w h e 0 ∨ gEn w h f 1 = gEn w h e 0 ∨ gEn w h f 0 = gEn w h e 1 ∨ gEn w h f 1 = gEn w h e 1
theorem mt_cn {w h e f : Nat} {mk : Nat → Nat} (he : e < gE w h) (hf : f < gE w h) (h1 : mk e = 1) (h2 : mk f = 1) (m : mt w h e f) : Cn w h mk (gEn w h f 0) (gEn w h e 0) := by
  have ce : Cn w h mk (gEn w h e 0) (gEn w h e 1) := CnI.ed he h1
  have cf : Cn w h mk (gEn w h f 0) (gEn w h f 1) := CnI.ed hf h2
  rcases m with q | q | q | q
  · rw [q]; exact CnI.rf
  · exact CnI.tr cf (by rw [q]; exact CnI.rf)
  · exact CnI.tr (by rw [q]; exact CnI.rf) (CnI.sy ce)
  · exact CnI.tr cf (by rw [q]; exact CnI.sy ce)
def JV (σ : vSt) (w h : Nat) (mk W : Nat → Nat) : Prop := ∀ e, e < gE w h → (mk e = 1 → gI σ 31 e = nI (W e) ∧ W e ≤ e ∧ wayP w h mk e (W e)) ∧ (¬ mk e = 1 → gI σ 31 e = -1)
def F31 (σ σ' : vSt) : Prop := (∀ q j, q ≠ 31 → gI σ' q j = gI σ q j) ∧ σ'.2 = σ.2
theorem F31.rf {σ : vSt} : F31 σ σ := ⟨fun _ _ _ => rfl, rfl⟩
theorem F31.wr {σ σ' : vSt} (x : F31 σ σ') {j : Nat} {v : Int32} : F31 σ (sI σ' 31 j v) := ⟨fun q j' hq => by rw [sI_ne _ _ (Or.inl hq)]; exact x.1 q j' hq, x.2⟩
theorem F31.tr {a b c : vSt} (x : F31 a b) (y : F31 b c) : F31 a c := ⟨fun q j hq => (y.1 q j hq).trans (x.1 q j hq), y.2.trans x.2⟩
theorem PG.f31 {σ σ' : vSt} {w h : Nat} {cnt : Nat → Int32} {mk : Nat → Nat} (p : PG σ w h cnt mk) (f : F31 σ σ') : PG σ' w h cnt mk := p.same (fun j => f.1 30 j (by decide))
theorem q_joins7 {w h : Nat} {cnt : Nat → Int32} {mk : Nat → Nat} : ∀ (n i : Nat) (σ σ0 : vSt), PG σ w h cnt mk → F31 σ0 σ → i ≤ gE w h → gE w h < i + n → (∀ e, e < i → gI σ 31 e = if mk e = 1 then nI e else -1) → ∃ σ', f_L_joins_7 (nI (gE w h)) n (nI i) σ = some σ' ∧ F31 σ0 σ' ∧ ∀ e, e < gE w h → gI σ' 31 e = if mk e = 1 then nI e else -1 := by
  intro n
  induction n with
  | zero => intro i σ σ0 p f a b; omega
  | succ n ih =>
    intro i σ σ0 p f a b hv
    have h40 := gE_40 p.1.2.2
    rw [f_L_joins_7.eq_2]
    by_cases z : gE w h ≤ i
    · rw [if_pos ((nI_leI (by omega) (by omega)).mpr z)]
      exact ⟨σ, rfl, f, fun e he => hv e (by omega)⟩
    · have hm := p.2.2.2.1 i
      rw [if_neg (by rw [nI_leI (by omega) (by omega)]; exact z), nI_add, if_pos (ig (by omega) (by omega)), nI_clamp (by omega), p.2.2.1 i (by omega), nI_clamp (by omega), if_pos (ig (by omega) (by omega)), if_pos (ig (by omega) (by omega)), nI_1 i]
      have hgo : ∀ v : Int32, v = (if mk i = 1 then nI i else -1) → ∃ σ', f_L_joins_7 (nI (gE w h)) n (nI (i + 1)) (sI σ 31 i v) = some σ' ∧ F31 σ0 σ' ∧ ∀ e, e < gE w h → gI σ' 31 e = if mk e = 1 then nI e else -1 := by
        intro v ev
        refine ih (i + 1) (sI σ 31 i v) σ0 (p.f31 (F31.rf.wr)) f.wr (by omega) (by omega) (fun e he => ?_)
        by_cases y : e = i
        · rw [y, sI_same]; exact ev
        · rw [sI_ne _ _ (Or.inr y)]; exact hv e (by omega)
      by_cases y : mk i = 1
      · rw [if_pos (by rw [y])]
        exact hgo _ (if_pos y).symm
      · rw [if_neg (by rw [nI_eq (by omega) (by decide)]; exact y)]
        exact hgo _ (if_neg y).symm
theorem nI_minL {a b : Nat} (ha : a < 2 ^ 31) (hb : b < 2 ^ 31) : (if nI b ≤ nI a then some (nI b) else some (nI a) : Option Int32) = some (nI (min a b)) := by
  by_cases c : b ≤ a
  · rw [if_pos ((nI_leI hb ha).mpr c), Nat.min_eq_right c]
  · rw [if_neg (by rw [nI_leI hb ha]; exact c), Nat.min_eq_left (by omega)]
def up2 (W : Nat → Nat) (e f : Nat) : Nat → Nat := fun k => if k = e ∨ k = f then min (W e) (W f) else W k
theorem up2_le (W : Nat → Nat) (e f k : Nat) : up2 W e f k ≤ W k := by
  unfold up2
  by_cases c : k = e ∨ k = f
  · rw [if_pos c]
    rcases c with rfl | rfl
    · exact Nat.min_le_left _ _
    · exact Nat.min_le_right _ _
  · rw [if_neg c]; exact Nat.le_refl _
theorem JV.up {σ : vSt} {w h : Nat} {mk W : Nat → Nat} (v : JV σ w h mk W) {e f : Nat} (he : e < gE w h) (hf : f < e) (h1 : mk e = 1) (h2 : mk f = 1) (m : mt w h e f) : JV (sI (sI σ 31 e (nI (min (W e) (W f)))) 31 f (nI (min (W e) (W f)))) w h mk (up2 W e f) := by
  have hfE : f < gE w h := by omega
  have ve := (v e he).1 h1
  have vf := (v f hfE).1 h2
  have cn := mt_cn he hfE h1 h2 m
  have we : wayP w h mk e (min (W e) (W f)) := by
    by_cases c : W e ≤ W f
    · rw [Nat.min_eq_left c]; exact ve.2.2
    · rw [Nat.min_eq_right (by omega)]
      exact ⟨vf.2.2.1, CnI.tr vf.2.2.2 cn⟩
  have wf : wayP w h mk f (min (W e) (W f)) := ⟨we.1, CnI.tr we.2 (CnI.sy cn)⟩
  intro k hk
  by_cases c1 : k = f
  · subst c1
    refine ⟨fun _ => ⟨?_, ?_, ?_⟩, fun q => absurd h2 q⟩
    · rw [sI_same]; unfold up2; rw [if_pos (Or.inr rfl)]
    · exact Nat.le_trans (up2_le W e k k) vf.2.1
    · unfold up2; rw [if_pos (Or.inr rfl)]; exact wf
  · rw [sI_ne _ _ (Or.inr c1)]
    by_cases c2 : k = e
    · subst c2
      refine ⟨fun _ => ⟨?_, ?_, ?_⟩, fun q => absurd h1 q⟩
      · rw [sI_same]; unfold up2; rw [if_pos (Or.inl rfl)]
      · exact Nat.le_trans (up2_le W k f k) ve.2.1
      · unfold up2; rw [if_pos (Or.inl rfl)]; exact we
    · rw [sI_ne _ _ (Or.inr c2)]
      have e0 : up2 W e f k = W k := by unfold up2; rw [if_neg (fun q => by rcases q with q | q; exact c2 q; exact c1 q)]
      rw [e0]
      exact v k hk
def fxW (w h : Nat) (mk W : Nat → Nat) (e f : Nat) : Prop := mk e = 1 → mk f = 1 → mt w h e f → W e = W f
theorem q_joins56 {w h : Nat} {cnt : Nat → Int32} {mk : Nat → Nat} {e : Nat} (he : e < gE w h) : ∀ (n f more : Nat) (σ : vSt) (W : Nat → Nat), PG σ w h cnt mk → JV σ w h mk W → f ≤ e → e < f + n → ∃ σ' W' more', f_L_joins_56x36 (nI e) n (nI more) (nI f) σ = some (nI more', σ') ∧ F31 σ σ' ∧ JV σ' w h mk W' ∧ ((more' = more ∧ W' = W ∧ ∀ g, f ≤ g → g < e → fxW w h mk W e g) ∨ (more' = 1 ∧ smW W' (gE w h) < smW W (gE w h))) := by
  intro n
  induction n with
  | zero => intro f more σ W p v a b; omega
  | succ n ih =>
    intro f more σ W p v a b
    have hd := p.1.2.2
    have h40 := gE_40 hd
    rw [f_L_joins_56x36.eq_2]
    by_cases z : e ≤ f
    · rw [if_pos ((nI_leI (by omega) (by omega)).mpr z)]
      exact ⟨σ, W, more, rfl, F31.rf, v, Or.inl ⟨rfl, rfl, fun g h1 h2 => by omega⟩⟩
    · have hf : f < e := by omega
      have hfE : f < gE w h := by omega
      have hgo : fxW w h mk W e f → ∃ σ' W' more', f_L_joins_56x36 (nI e) n (nI more) (nI (f + 1)) σ = some (nI more', σ') ∧ F31 σ σ' ∧ JV σ' w h mk W' ∧ ((more' = more ∧ W' = W ∧ ∀ g, f ≤ g → g < e → fxW w h mk W e g) ∨ (more' = 1 ∧ smW W' (gE w h) < smW W (gE w h))) := by
        intro q
        obtain ⟨σ', W', more', e1, e2, e3, e4⟩ := ih (f + 1) more σ W p v (by omega) (by omega)
        refine ⟨σ', W', more', e1, e2, e3, e4.imp (fun x => ⟨x.1, x.2.1, fun g h1 h2 => ?_⟩) id⟩
        by_cases y : g = f
        · rw [y]; exact q
        · exact x.2.2 g (by omega) h2
      rw [if_neg (by rw [nI_leI (by omega) (by omega)]; exact z), nI_clamp (n := e) (by omega), nI_clamp (n := f) (by omega), nI_1 f]
      have ge : (0 : Int) ≤ (nI e).toInt ∧ (nI e).toInt < 40 := ig (by omega) (by omega)
      have gf : (0 : Int) ≤ (nI f).toInt ∧ (nI f).toInt < 40 := ig (by omega) (by omega)
      rw [if_pos ge]
      by_cases c1 : mk e = 1
      · obtain ⟨v1, v2, v3⟩ := (v e he).1 c1
        rw [v1, if_neg (show ¬ nI (W e) < nI 0 by rw [nI_ltI (by omega) (by decide)]; omega), if_pos gf]
        by_cases c2 : mk f = 1
        · obtain ⟨u1, u2, u3⟩ := (v f hfE).1 c2
          rw [u1, if_neg (show ¬ nI (W f) < nI 0 by rw [nI_ltI (by omega) (by decide)]; omega), if_pos ge, if_pos gf]
          by_cases c3 : W e = W f
          · rw [if_pos (show nI (W e) = nI (W f) by rw [c3])]
            simp only [ob]
            rw [if_pos trivial]
            exact hgo (fun _ _ _ => c3)
          · rw [if_neg (show ¬ nI (W e) = nI (W f) by rw [nI_eq (by omega) (by omega)]; exact c3), q_ends p.1 he]
            simp only [ob]
            obtain ⟨d0, d1⟩ := q_end0 hd he
            rw [d1, d0, q_isAt p.1 hfE (gEn_lt hd he (by decide)), q_isAt p.1 hfE (gEn_lt hd he (by decide))]
            simp only [ob]
            have em : ((if (if gEn w h f 0 = gEn w h e 0 ∨ gEn w h f 1 = gEn w h e 0 then nI 1 else nI 0) = nI 0 then (if (if gEn w h f 0 = gEn w h e 1 ∨ gEn w h f 1 = gEn w h e 1 then nI 1 else nI 0) = nI 0 then some (nI 0) else some (nI 1)) else some (nI 1)) : Option Int32) = some (nI (iv (mt w h e f))) := by
              by_cases y : gEn w h f 0 = gEn w h e 0 ∨ gEn w h f 1 = gEn w h e 0
              · rw [if_pos y, if_neg (by decide), iv_t (show mt w h e f by rcases y with y | y; exact Or.inl y; exact Or.inr (Or.inl y))]
              · rw [if_neg y, if_pos rfl]
                by_cases x : gEn w h f 0 = gEn w h e 1 ∨ gEn w h f 1 = gEn w h e 1
                · rw [if_pos x, if_neg (by decide), iv_t (show mt w h e f from Or.inr (Or.inr x))]
                · rw [if_neg x, if_pos rfl, iv_f (show ¬ mt w h e f by
                    rintro (q | q | q | q)
                    · exact y (Or.inl q)
                    · exact y (Or.inr q)
                    · exact x (Or.inl q)
                    · exact x (Or.inr q))]
            rw [em]
            simp only [ob]
            by_cases c4 : mt w h e f
            · rw [iv_t c4, if_neg (show ¬ nI 1 = nI 0 by decide), if_pos ge, if_pos gf, if_pos gf, if_pos ge, nI_minL (by omega) (by omega)]
              simp only [ob]
              rw [if_pos ge, if_pos gf]
              have v' := v.up he hf c1 c2 c4
              have f' : F31 σ (sI (sI σ 31 e (nI (min (W e) (W f)))) 31 f (nI (min (W e) (W f)))) := F31.rf.wr.wr
              obtain ⟨σ', W', more', e1, e2, e3, e4⟩ := ih (f + 1) 1 _ _ (p.f31 f') v' (by omega) (by omega)
              have hlt : smW (up2 W e f) (gE w h) < smW W (gE w h) := by
                by_cases y : W e < W f
                · refine smW_lt (j := f) _ (fun k _ => up2_le W e f k) hfE ?_
                  unfold up2; rw [if_pos (Or.inr rfl)]; omega
                · refine smW_lt (j := e) _ (fun k _ => up2_le W e f k) he ?_
                  unfold up2; rw [if_pos (Or.inl rfl)]; omega
              refine ⟨σ', W', more', e1, f'.tr e2, e3, Or.inr ?_⟩
              rcases e4 with ⟨x1, x2, _⟩ | ⟨x1, x2⟩
              · exact ⟨x1, by rw [x2]; exact hlt⟩
              · exact ⟨x1, Nat.lt_trans x2 hlt⟩
            · rw [iv_f c4, if_pos (show nI 0 = nI 0 from rfl)]
              exact hgo (fun _ _ q => absurd q c4)
        · rw [(v f hfE).2 c2, if_pos m1_lt0]
          simp only [ob]
          rw [if_pos trivial]
          exact hgo (fun _ q => absurd q c2)
      · rw [(v e he).2 c1, if_pos m1_lt0]
        simp only [ob]
        rw [if_pos trivial]
        exact hgo (fun q => absurd q c1)
theorem q_joins47 {w h : Nat} {cnt : Nat → Int32} {mk : Nat → Nat} : ∀ (n e more : Nat) (σ : vSt) (W : Nat → Nat), PG σ w h cnt mk → JV σ w h mk W → e ≤ gE w h → gE w h < e + n → ∃ σ' W' more', f_L_joins_47x26 (nI (gE w h)) n (nI more) (nI e) σ = some (nI more', σ') ∧ F31 σ σ' ∧ JV σ' w h mk W' ∧ ((more' = more ∧ W' = W ∧ ∀ e', e ≤ e' → e' < gE w h → ∀ g, g < e' → fxW w h mk W e' g) ∨ (more' = 1 ∧ smW W' (gE w h) < smW W (gE w h))) := by
  intro n
  induction n with
  | zero => intro e more σ W p v a b; omega
  | succ n ih =>
    intro e more σ W p v a b
    have hd := p.1.2.2
    have h40 := gE_40 hd
    rw [f_L_joins_47x26.eq_2]
    by_cases z : gE w h ≤ e
    · rw [if_pos ((nI_leI (by omega) (by omega)).mpr z)]
      exact ⟨σ, W, more, rfl, F31.rf, v, Or.inl ⟨rfl, rfl, fun e' h1 h2 => by omega⟩⟩
    · have he : e < gE w h := by omega
      rw [if_neg (by rw [nI_leI (by omega) (by omega)]; exact z)]
      obtain ⟨σ1, W1, more1, e1, f1, v1, r1⟩ := q_joins56 he 600 0 more σ W p v (Nat.zero_le _) (by omega)
      have e1' : f_L_joins_56x36 (nI e) 600 (nI more) (nI 0) σ = some (nI more1, σ1) := e1
      rw [e1', nI_1 e]
      obtain ⟨σ2, W2, more2, e2, f2, v2, r2⟩ := ih (e + 1) more1 σ1 W1 (p.f31 f1) v1 (by omega) (by omega)
      refine ⟨σ2, W2, more2, e2, f1.tr f2, v2, ?_⟩
      rcases r1 with ⟨x1, x2, x3⟩ | ⟨x1, x2⟩
      · rcases r2 with ⟨y1, y2, y3⟩ | ⟨y1, y2⟩
        · refine Or.inl ⟨y1.trans x1, y2.trans x2, fun e' h1 h2 g hg => ?_⟩
          by_cases q : e' = e
          · rw [q] at hg ⊢; exact x3 g (Nat.zero_le _) hg
          · rw [← x2]; exact y3 e' (by omega) h2 g hg
        · exact Or.inr ⟨y1, by rw [← x2]; exact y2⟩
      · rcases r2 with ⟨y1, y2, _⟩ | ⟨y1, y2⟩
        · exact Or.inr ⟨y1.trans x1, by rw [y2]; exact x2⟩
        · exact Or.inr ⟨y1, Nat.lt_trans y2 x2⟩
theorem q_joins38 {w h : Nat} {cnt : Nat → Int32} {mk : Nat → Nat} : ∀ (n : Nat) (σ : vSt) (W : Nat → Nat), PG σ w h cnt mk → JV σ w h mk W → smW W (gE w h) + 1 < n → ∃ σ' W', f_L_joins_38 (nI (gE w h)) n (nI 1) σ = some σ' ∧ F31 σ σ' ∧ JV σ' w h mk W' ∧ ∀ e, e < gE w h → ∀ g, g < e → fxW w h mk W' e g := by
  intro n
  induction n with
  | zero => intro σ W p v b; omega
  | succ n ih =>
    intro σ W p v b
    have h40 := gE_40 p.1.2.2
    rw [f_L_joins_38.eq_2, if_neg (show ¬ nI 1 = nI 0 by decide)]
    obtain ⟨σ1, W1, more1, e1, f1, v1, r1⟩ := q_joins47 600 0 0 σ W p v (Nat.zero_le _) (by omega)
    have e1' : f_L_joins_47x26 (nI (gE w h)) 600 (nI 0) (nI 0) σ = some (nI more1, σ1) := e1
    rw [e1']
    simp only [ob]
    rcases r1 with ⟨x1, x2, x3⟩ | ⟨x1, x2⟩
    · obtain ⟨m, rfl⟩ : ∃ m, n = m + 1 := ⟨n - 1, by omega⟩
      rw [x1, f_L_joins_38.eq_2, if_pos (show nI 0 = nI 0 from rfl)]
      exact ⟨σ1, W1, rfl, f1, v1, fun e he g hg => by rw [x2]; exact x3 e (Nat.zero_le _) he g hg⟩
    · rw [x1]
      obtain ⟨σ2, W2, e2, f2, v2, r2⟩ := ih σ1 W1 (p.f31 f1) v1 (by omega)
      exact ⟨σ2, W2, e2, f1.tr f2, v2, r2⟩
/-- at rest: the least of the way -/
theorem fx_way {w h : Nat} {mk W : Nat → Nat} (fx : ∀ e, e < gE w h → ∀ g, g < e → fxW w h mk W e g) {e f : Nat} (he : e < gE w h) (hf : f < gE w h) (h1 : mk e = 1) (wp : wayP w h mk e f) : W f = W e := by
  have sy : ∀ a b, mt w h a b → mt w h b a := by
    intro a b q
    rcases q with q | q | q | q
    · exact Or.inl q.symm
    · exact Or.inr (Or.inr (Or.inl q.symm))
    · exact Or.inr (Or.inl q.symm)
    · exact Or.inr (Or.inr (Or.inr q.symm))
  have all : ∀ a b, a < gE w h → b < gE w h → mk a = 1 → mk b = 1 → mt w h a b → W a = W b := by
    intro a b ha hb ma mb q
    by_cases c : b < a
    · exact fx a ha b c ma mb q
    · by_cases c2 : a < b
      · exact (fx b hb a c2 mb ma (sy a b q)).symm
      · rw [show a = b by omega]
  have key := wp.2 (fun k => ∃ g, g < gE w h ∧ mk g = 1 ∧ (gEn w h g 0 = k ∨ gEn w h g 1 = k) ∧ W g = W e) (fun g hg mg => by
    constructor
    · rintro ⟨x, hx, mx, ex, wx⟩
      refine ⟨g, hg, mg, Or.inr rfl, ?_⟩
      rw [← wx]
      refine all g x hg hx mg mx ?_
      rcases ex with ex | ex
      · exact Or.inl ex
      · exact Or.inr (Or.inl ex)
    · rintro ⟨x, hx, mx, ex, wx⟩
      refine ⟨g, hg, mg, Or.inl rfl, ?_⟩
      rw [← wx]
      refine all g x hg hx mg mx ?_
      rcases ex with ex | ex
      · exact Or.inr (Or.inr (Or.inl ex))
      · exact Or.inr (Or.inr (Or.inr ex)))
  obtain ⟨g, hg, mg, eg, wg⟩ := key.mpr ⟨e, he, h1, Or.inl rfl, rfl⟩
  rw [← wg]
  refine all f g hf hg wp.1 mg ?_
  rcases eg with eg | eg
  · exact Or.inl eg
  · exact Or.inr (Or.inl eg)
theorem fx_lst {σ : vSt} {w h : Nat} {mk W : Nat → Nat} (v : JV σ w h mk W) (fx : ∀ e, e < gE w h → ∀ g, g < e → fxW w h mk W e g) {e : Nat} (he : e < gE w h) (h1 : mk e = 1) : W e = lst (gE w h) (wayP w h mk e) := by
  have v1 := (v e he).1 h1
  symm
  refine lst_is (by omega) v1.2.2 (fun l hl q => ?_)
  have hlE : l < gE w h := by omega
  have e1 := fx_way fx he hlE h1 q
  have v2 := ((v l hlE).1 q.1).2.1
  omega
def wyI (w h : Nat) (mk : Nat → Nat) (e : Nat) : Nat := if mk e = 1 then 1 else 0
theorem q_joins {σ : vSt} {w h : Nat} {cnt : Nat → Int32} {mk : Nat → Nat} (p : PG σ w h cnt mk) : ∃ σ', f_L_joins σ = some σ' ∧ F31 σ σ' ∧ ∀ e, e < gE w h → (mk e = 1 → gI σ' 31 e = nI (lst (gE w h) (wayP w h mk e))) ∧ (¬ mk e = 1 → gI σ' 31 e = -1) := by
  have h40 := gE_40 p.1.2.2
  unfold f_L_joins
  rw [q_edges p.1]
  simp only [ob]
  obtain ⟨σ1, e1, f1, v1⟩ := q_joins7 600 0 σ σ p F31.rf (Nat.zero_le _) (by omega) (fun e he => absurd he (Nat.not_lt_zero e))
  have e1' : f_L_joins_7 (nI (gE w h)) 600 (nI 0) σ = some σ1 := e1
  rw [e1']
  simp only [ob]
  have v2 : JV σ1 w h mk (fun e => e) := fun e he => ⟨fun q => ⟨by rw [v1 e he, if_pos q], Nat.le_refl _, q, CnI.rf⟩, fun q => by rw [v1 e he, if_neg q]⟩
  have hb := smW_b (W := fun e => e) (gE w h) h40 (fun k _ => Nat.le_refl _)
  obtain ⟨σ2, W2, e2, f2, v3, fx⟩ := q_joins38 2000 σ1 _ (p.f31 f1) v2 (by omega)
  rw [e2]
  simp only [ob]
  refine ⟨σ2, rfl, f1.tr f2, fun e he => ⟨fun q => ?_, (v3 e he).2⟩⟩
  rw [((v3 e he).1 q).1, fx_lst v3 fx he q]
