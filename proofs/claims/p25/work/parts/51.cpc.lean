/-! COUNTS OF BITS AGAINST LISTS -/
theorem cr_one (p : Nat → Bool) (a : Nat) : ∀ N, a < N → (List.range N).countP (fun e => decide (e = a) && p e) = if p a then 1 else 0 := by
  intro N
  induction N with
  | zero => intro h; omega
  | succ N ih =>
    intro h
    rw [List.range_succ, List.countP_append, List.countP_singleton]
    by_cases c : a = N
    · subst c
      have : (List.range a).countP (fun e => decide (e = a) && p e) = 0 := by
        rw [List.countP_eq_zero]
        intro e he
        have := List.mem_range.mp he
        simp; omega
      rw [this]
      cases p a <;> simp
    · rw [ih (by omega)]
      have : (decide (N = a) && p N) = false := by simp; omega
      rw [this]
      simp
theorem cr_or (f g : Nat → Bool) (hd : ∀ e, ¬ (f e = true ∧ g e = true)) : ∀ L : List Nat, L.countP (fun e => f e || g e) = L.countP f + L.countP g := by
  intro L
  induction L with
  | nil => rfl
  | cons a t ih =>
    rw [List.countP_cons, List.countP_cons, List.countP_cons, ih]
    have := hd a
    cases hf : f a <;> cases hg : g a <;> simp_all <;> omega
theorem cr_list (p : Nat → Bool) (N : Nat) : ∀ L : List Nat, L.Nodup → (∀ e, e ∈ L → e < N) → (List.range N).countP (fun e => decide (e ∈ L) && p e) = L.countP p := by
  intro L
  induction L with
  | nil =>
    intro _ _
    rw [List.countP_eq_zero.mpr]
    · rfl
    · intro e _; simp
  | cons a t ih =>
    intro hn hl
    have hn' := List.nodup_cons.mp hn
    have h1 : (fun e => decide (e ∈ a :: t) && p e) = (fun e => (decide (e = a) && p e) || (decide (e ∈ t) && p e)) := by
      funext e
      by_cases x : e = a
      · subst x; simp
      · simp [x]
    rw [h1, cr_or _ _ (by
      intro e q
      have q1 := q.1
      have q2 := q.2
      simp at q1 q2
      exact hn'.1 (q1.1 ▸ q2.1)), cr_one p a N (hl a List.mem_cons_self), ih hn'.2 (fun e he => hl e (List.mem_cons_of_mem _ he)), List.countP_cons]
    omega
