/-! the references as the constructors leave them -/
theorem lw_R50 : ∀ x, x < 81 → ∀ j, j < 50 → lw_R x j = am_RR (none, none, none) x j := by decide +kernel
theorem lw_E : InvE lw_I := by
  unfold InvE
  decide +kernel
theorem lw_sizes : ∀ k, k < 10 → lw_I (38 + 2 * k) 1 = -1 ∧ lw_I 63 k = -1 := by decide +kernel
/-! no cell has a reference from 50 on -/
def lw_no (R : Nat → Nat → Option Nat) : Prop := ∀ x y, 50 ≤ y → R x y = none
theorem lw_no0 : lw_no (fun _ _ => none) := fun _ _ _ => rfl
theorem lw_noz {n : Nat} {R : Nat → Nat → Option Nat} (h : lw_no R) : lw_no (mzR n R) := by
  intro x y hy
  unfold mzR
  by_cases e : x = n
  · rw [if_pos e]
  · rw [if_neg e]; exact h x y hy
theorem lw_nor {o j v : Nat} {R : Nat → Nat → Option Nat} (hj : j < 50) (h : lw_no R) : lw_no (mrR R o j v) := by
  intro x y hy
  unfold mrR
  rw [if_neg (fun e => absurd e.2 (by omega))]
  exact h x y hy
theorem lw_noR : lw_no lw_R := by
  unfold lw_R
  repeat first | exact lw_no0 | refine lw_noz ?_ | refine lw_nor (by decide) ?_ | unfold mk_68_61_R | unfold mk_0_0_R
theorem lw_beq {j c : Nat} (hj : 50 ≤ j) (hc : c < 50) : Nat.beq j c = false := by
  cases e : Nat.beq j c with
  | false => rfl
  | true =>
    have := Nat.eq_of_beq_eq_true e
    omega
theorem lw_noC {v j : Nat} (h : 50 ≤ j) : am_RC v j = none := by
  unfold am_RC
  simp only [lw_beq h (show 0 < 50 by decide), lw_beq h (show 1 < 50 by decide), lw_beq h (show 2 < 50 by decide), lw_beq h (show 3 < 50 by decide), lw_beq h (show 4 < 50 by decide), lw_beq h (show 5 < 50 by decide), lw_beq h (show 6 < 50 by decide), lw_beq h (show 7 < 50 by decide), lw_beq h (show 8 < 50 by decide), lw_beq h (show 9 < 50 by decide), lw_beq h (show 10 < 50 by decide), lw_beq h (show 11 < 50 by decide), lw_beq h (show 12 < 50 by decide), lw_beq h (show 13 < 50 by decide), lw_beq h (show 14 < 50 by decide), lw_beq h (show 15 < 50 by decide), lw_beq h (show 16 < 50 by decide), lw_beq h (show 17 < 50 by decide), lw_beq h (show 18 < 50 by decide), lw_beq h (show 19 < 50 by decide), lw_beq h (show 20 < 50 by decide), lw_beq h (show 21 < 50 by decide), lw_beq h (show 22 < 50 by decide), lw_beq h (show 23 < 50 by decide), lw_beq h (show 24 < 50 by decide), lw_beq h (show 25 < 50 by decide), lw_beq h (show 26 < 50 by decide), lw_beq h (show 27 < 50 by decide), lw_beq h (show 28 < 50 by decide), lw_beq h (show 29 < 50 by decide), lw_beq h (show 30 < 50 by decide), lw_beq h (show 31 < 50 by decide), lw_beq h (show 32 < 50 by decide), lw_beq h (show 33 < 50 by decide), lw_beq h (show 34 < 50 by decide), lw_beq h (show 35 < 50 by decide), lw_beq h (show 36 < 50 by decide), lw_beq h (show 37 < 50 by decide), lw_beq h (show 38 < 50 by decide), lw_beq h (show 39 < 50 by decide), lw_beq h (show 40 < 50 by decide), lw_beq h (show 41 < 50 by decide), lw_beq h (show 42 < 50 by decide), lw_beq h (show 43 < 50 by decide), lw_beq h (show 44 < 50 by decide), lw_beq h (show 45 < 50 by decide), lw_beq h (show 46 < 50 by decide), lw_beq h (show 47 < 50 by decide), lw_beq h (show 48 < 50 by decide), lw_beq h (show 49 < 50 by decide), cond_false, Bool.cond_self]
theorem lw_noRR {v j : Nat} (h : 50 ≤ j) : am_RR (none, none, none) v j = none := by
  unfold am_RR
  rw [lw_noC h]
  simp only [Bool.cond_self]
theorem lw_Rall (x : Nat) (hx : x < 81) (j : Nat) : lw_R x j = am_RR (none, none, none) x j := by
  by_cases h : j < 50
  · exact lw_R50 x hx j h
  · rw [lw_noR x j (by omega), lw_noRR (by omega)]
/-! what holds at first -/
def lw_T : tT := ((0, 0, 0, 0, 0), (fun _ => 0), (fun _ => 0), fun _ => 0)
theorem lw_rows : InvR lw_I := by
  intro k hk
  obtain ⟨a, b⟩ := lw_sizes k hk
  have e : (-1 : Int32).toInt = -1 := by decide
  rw [b, e]
  exact ⟨a, Int.le_refl _, by omega, fun j hj => absurd hj (by omega), fun _ j hj => absurd hj (by omega)⟩
theorem lw_told0 : ∀ f, f < 6 → lw_I 37 f = lw_I 62 f := by decide +kernel
theorem lw_told : InvD lw_I lw_J := ⟨by decide +kernel, by decide +kernel, fun f _ h => lw_told0 f h, by decide +kernel, by decide +kernel⟩
theorem lw_lit : ∀ s, s < 64 → lw_I 13 s = nI (lit lw_T 0 s) := by decide +kernel
theorem lw_k0 : ∀ k, k < 3 → lw_I 70 k = -9 := by decide +kernel
theorem lw_cT : cT lw_T lw_I := ⟨⟨by decide +kernel, by decide +kernel, by decide +kernel, by decide +kernel⟩, by decide +kernel, by decide +kernel, by decide +kernel, by decide +kernel, fun k hk => absurd hk (Nat.not_lt_zero k), fun k hk => absurd hk (Nat.not_lt_zero k)⟩
theorem lw_mT : mT lw_T lw_I := ⟨by decide +kernel, by decide +kernel, by decide +kernel, by decide +kernel, by decide +kernel, by decide +kernel, by decide +kernel, by decide +kernel, fun k hk => absurd hk (Nat.not_lt_zero k)⟩
theorem lw_K : InvK lw_T lw_I := ⟨0, by decide, by decide +kernel, fun k hk => by
  rw [if_neg (by rw [Nat.zero_testBit]; decide)]
  exact lw_k0 k hk⟩
theorem lw_S : InvS lw_T lw_I := ⟨0, by decide, by decide +kernel, by decide +kernel, fun i hi => absurd hi (Nat.not_lt_zero i)⟩
theorem lw_O : InvO lw_T 0 (none, none, none) lw_I := Or.inl (by decide +kernel)
theorem lw_X : InvX (none, none, none) lw_I := ⟨lw_T, 0, lw_cT, lw_mT, by decide +kernel, by decide +kernel, by decide +kernel, lw_lit, by decide +kernel, lw_K, lw_S, lw_O, Or.inr ⟨⟨rfl, rfl, rfl, rfl, rfl⟩, lw_E⟩⟩
theorem lw_inv : Inv (none, none, none) lw_I lw_J := ⟨lw_rows, lw_told, lw_X⟩
theorem lw_law : am_Law := by
  intro G l hG
  refine lw_begin ?_
  refine am_WP.cells (g' := am_st (none, none, none) lw_I lw_J) rfl (fun x hx => am_cell_congr rfl (fun _ => rfl) (fun _ => rfl) (fun j => (lw_Rall x hx j).symm)) ?_
  have h : am_WP G l 264 18 [some (.float 0), some (.ref 0), some (.ref 61), some (.int 0)] [] 81 40064 (am_st (none, none, none) lw_I lw_J) (bm_Q (fun v _ _ _ => v = some (.int 1))) := lw_loop hG G.2.2.1 0 0 _ lw_I lw_J (by omega) (by decide) rfl lw_inv
  refine am_WP.mono h ?_
  rintro v g ⟨t, I, L, _, hv⟩
  exact hv
