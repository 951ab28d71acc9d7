/-! THE CLASS'S MASKS -/
def GM (σ : vSt) (w h : Nat) : Prop := (∀ c, c < gC w h → ∀ e, bt (gL σ 2 c) e = decide (e ∈ gArL w h c)) ∧ ∀ k, k < gK w h → ∀ e, bt (gL σ 3 k) e = decide (e ∈ gToL w h k)
theorem nodup_dec : dimAll (fun w h => (allLt (gC w h) fun c => decide (gArL w h c).Nodup) && (allLt (gK w h) fun k => decide (gToL w h k).Nodup)) = true := by decide +kernel
theorem gArL_nd {w h c : Nat} (hd : dim w h) (hc : c < gC w h) : (gArL w h c).Nodup := of_decide_eq_true (allLt_of (and_l (dimAll_of nodup_dec hd)) hc)
theorem gToL_nd {w h k : Nat} (hd : dim w h) (hk : k < gK w h) : (gToL w h k).Nodup := of_decide_eq_true (allLt_of (and_r (dimAll_of nodup_dec hd)) hk)
theorem gArL_lt {w h c e : Nat} (hd : dim w h) (hc : c < gC w h) (he : e ∈ gArL w h c) : e < gE w h := by
  unfold gArL at he
  simp only [List.mem_cons, List.not_mem_nil, or_false] at he
  rcases he with q | q | q | q <;> rw [q] <;> exact gAr_lt hd hc (by decide)
theorem pc_mask {x y : Int64} {L : List Nat} {E v : Nat} {mk : Nat → Nat} (hE : E ≤ 64) (hn : L.Nodup) (hl : ∀ e, e ∈ L → e < E) (hx : ∀ e, bt x e = decide (e ∈ L)) (hy : ∀ e, bt y e = decide (e < E ∧ mk e = v)) : pc (x &&& y) = L.countP (fun e => decide (mk e = v)) := by
  unfold pc
  rw [← cr_list (fun e => decide (mk e = v)) 64 L hn (fun e he => Nat.lt_of_lt_of_le (hl e he) hE)]
  congr 1
  funext e
  rw [bt_and, hx, hy]
  by_cases a : e ∈ L
  · simp [a, hl e a]
  · simp [a]
theorem k_pcC {σ : vSt} {b w h : Nat} {mk : Nat → Nat} (hd : dim w h) (g : GM σ w h) (m : MB σ b w h mk) {c : Nat} (hc : c < gC w h) : f_J13_bitCount_95d88 (gL σ 2 c &&& gL σ b 2) = some (nI (nAr w h mk c 1)) ∧ f_J13_bitCount_95d88 (gL σ 2 c &&& gL σ b 3) = some (nI (nAr w h mk c 0)) := by
  have h40 := gE_40 hd
  rw [bitCount_eq, bitCount_eq, pc_mask (by omega) (gArL_nd hd hc) (fun e he => gArL_lt hd hc he) (g.1 c hc) m.1, pc_mask (by omega) (gArL_nd hd hc) (fun e he => gArL_lt hd hc he) (g.1 c hc) m.2]
  exact ⟨rfl, rfl⟩
theorem k_pcK {σ : vSt} {b w h : Nat} {mk : Nat → Nat} (hd : dim w h) (g : GM σ w h) (m : MB σ b w h mk) {k : Nat} (hk : k < gK w h) : f_J13_bitCount_95d88 (gL σ 3 k &&& gL σ b 2) = some (nI (nTo w h mk k 1)) ∧ f_J13_bitCount_95d88 (gL σ 3 k &&& gL σ b 3) = some (nI (nTo w h mk k 0)) := by
  have h40 := gE_40 hd
  rw [bitCount_eq, bitCount_eq, pc_mask (by omega) (gToL_nd hd hk) (fun e he => gToL_lt hd hk he) (g.2 k hk) m.1, pc_mask (by omega) (gToL_nd hd hk) (fun e he => gToL_lt hd hk he) (g.2 k hk) m.2]
  exact ⟨rfl, rfl⟩
