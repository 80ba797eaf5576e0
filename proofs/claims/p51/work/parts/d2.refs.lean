/-! the law at its start: the references as the constructors leave them, and the claim -/
def lw_I : am_I := mk_0_0_I (mz 0 (fun _ _ => 0))
def lw_J : am_J := mk_0_0_L (mzL 0 (fun _ _ => 0))
def lw_R : Nat → Nat → Option Nat := mk_0_0_R (mzR 0 (fun _ _ => none))
set_option maxRecDepth 20000 in
theorem lw_begin {G : am_G} {l : Launch} {Q : Option Value → am_S → Prop} (h : am_WP G l 264 7 [some (.float 0), none, none, none, none, none, none, none, none, none, none, none, none, none, none, none, none, none, none, none] [.ref 0] 61 20015 (am_pt 61 lw_I lw_J lw_R) Q) : am_WP G l 264 0 (am_init 20 [.float 0]) [] 0 0 am_s0 Q := by
  refine am_WP.cells (g' := am_pt 0 (fun _ _ => 0) (fun _ _ => 0) (fun _ _ => none)) rfl (fun x hx => absurd hx (Nat.not_lt_zero x)) ?_
  refine am_goK (am_ok_all 264 (by decide)) 0 ?_
  show am_WP G l 264 3 [some (.float 0), none, none, none, none, none, none, none, none, none, none, none, none, none, none, none, none, none, none, none] [.ref 0] 1 15 (am_new (am_pt 0 _ _ _) 0 15) Q
  rw [am_new_pt (show am_SH 0 = (0, 15) from rfl)]
  refine am_goK (am_ok_all 264 (by decide)) 1 ?_
  refine mk_0_0 ?_
  exact h
theorem lw_R50 : ∀ x, x < 61 → ∀ j, j < 50 → lw_R x j = am_RR (none, none, none) x j := by decide +kernel
/-! no cell has a reference from 50 on -/
def lw_no (R : Nat → Nat → Option Nat) : Prop := ∀ x y, 50 ≤ y → R x y = none
theorem lw_no0 : lw_no (fun _ _ => none) := fun _ _ _ => rfl
theorem lw_noz {n : Nat} {R : Nat → Nat → Option Nat} (h : lw_no R) : lw_no (mzR n R) := by
  intro x y hy
  unfold mzR
  by_cases e : x = n
  · rw [if_pos e]
  · rw [if_neg e]; exact h x y hy
theorem lw_nor {o j v : Nat} {R : Nat → Nat → Option Nat} (hj : j < 50) (h : lw_no R) : lw_no (mrR R o j v) := by
  intro x y hy
  unfold mrR
  rw [if_neg (fun e => absurd e.2 (by omega))]
  exact h x y hy
theorem lw_noR : lw_no lw_R := by
  unfold lw_R
  repeat first | exact lw_no0 | refine lw_noz ?_ | refine lw_nor (by decide) ?_ | unfold mk_0_0_R
theorem lw_beq {j c : Nat} (hj : 50 ≤ j) (hc : c < 50) : Nat.beq j c = false := by
  cases e : Nat.beq j c with
  | false => rfl
  | true =>
    have := Nat.eq_of_beq_eq_true e
    omega
theorem lw_noC {v j : Nat} (h : 50 ≤ j) : am_RC v j = none := by
  unfold am_RC
  simp only [lw_beq h (show 0 < 50 by decide), lw_beq h (show 1 < 50 by decide), lw_beq h (show 2 < 50 by decide), lw_beq h (show 3 < 50 by decide), lw_beq h (show 4 < 50 by decide), lw_beq h (show 5 < 50 by decide), lw_beq h (show 6 < 50 by decide), lw_beq h (show 7 < 50 by decide), lw_beq h (show 8 < 50 by decide), lw_beq h (show 9 < 50 by decide), lw_beq h (show 10 < 50 by decide), lw_beq h (show 11 < 50 by decide), lw_beq h (show 12 < 50 by decide), lw_beq h (show 13 < 50 by decide), lw_beq h (show 14 < 50 by decide), lw_beq h (show 15 < 50 by decide), lw_beq h (show 16 < 50 by decide), lw_beq h (show 17 < 50 by decide), lw_beq h (show 18 < 50 by decide), lw_beq h (show 19 < 50 by decide), lw_beq h (show 20 < 50 by decide), lw_beq h (show 21 < 50 by decide), lw_beq h (show 22 < 50 by decide), lw_beq h (show 23 < 50 by decide), lw_beq h (show 24 < 50 by decide), lw_beq h (show 25 < 50 by decide), lw_beq h (show 26 < 50 by decide), lw_beq h (show 27 < 50 by decide), lw_beq h (show 28 < 50 by decide), lw_beq h (show 29 < 50 by decide), lw_beq h (show 30 < 50 by decide), lw_beq h (show 31 < 50 by decide), lw_beq h (show 32 < 50 by decide), lw_beq h (show 33 < 50 by decide), lw_beq h (show 34 < 50 by decide), lw_beq h (show 35 < 50 by decide), lw_beq h (show 36 < 50 by decide), lw_beq h (show 37 < 50 by decide), lw_beq h (show 38 < 50 by decide), lw_beq h (show 39 < 50 by decide), lw_beq h (show 40 < 50 by decide), lw_beq h (show 41 < 50 by decide), lw_beq h (show 42 < 50 by decide), lw_beq h (show 43 < 50 by decide), lw_beq h (show 44 < 50 by decide), lw_beq h (show 45 < 50 by decide), lw_beq h (show 46 < 50 by decide), lw_beq h (show 47 < 50 by decide), lw_beq h (show 48 < 50 by decide), lw_beq h (show 49 < 50 by decide), cond_false, Bool.cond_self]
theorem lw_noRR {v j : Nat} (h : 50 ≤ j) : am_RR (none, none, none) v j = none := by
  unfold am_RR
  rw [lw_noC h]
  simp only [Bool.cond_self]
theorem lw_Rall (x : Nat) (hx : x < 61) (j : Nat) : lw_R x j = am_RR (none, none, none) x j := by
  by_cases h : j < 50
  · exact lw_R50 x hx j h
  · rw [lw_noR x j (by omega), lw_noRR (by omega)]
/-! what holds at first -/
theorem lw_sizes : ∀ k, k < 10 → lw_I (38 + 2 * k) 1 = -1 := by decide +kernel
theorem lw_cZ : cZ lw_I := fun k hk => by
  rw [lw_sizes k hk]
  exact ⟨by decide, by have : (-1 : Int32).toInt = -1 := rfl
                       omega⟩
theorem lw_13 : lw_I 13 0 = nI 0 := by decide +kernel
theorem lw_15 : lw_I 15 0 = nI 0 := by decide +kernel
theorem lw_I40 : lw_I 40 1 = -1 := by decide +kernel
theorem lw_law : am_Law := by
  intro G l hG
  refine lw_begin ?_
  refine am_WP.cells (g' := am_st 61 (none, none, none) lw_I lw_J) rfl (fun x hx => am_cell_congr rfl (fun _ => rfl) (fun _ => rfl) (fun j => (lw_Rall x hx j).symm)) ?_
  refine am_WP.mono (lw_7 (l := l) (t := (none, none, none)) (L := lw_J) hG lw_cZ lw_13 lw_15 lw_I40 (Nat.le_refl 61)) ?_
  rintro v g ⟨n, t, I, L, _, _, hv⟩
  exact hv
