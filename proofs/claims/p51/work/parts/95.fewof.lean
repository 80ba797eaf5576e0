/-! the reference: the fewest steps of a set, how many ways -/
def Ws (g : Nat → Nat → Nat → Option Nat) (ok : Nat → Nat → Bool) (s : Nat) : Nat := sumN 8 (Wo g ok s)
theorem Fm_0 (g : Nat → Nat → Nat → Option Nat) : Fm g 0 = some 0 := by
  have e : Fo g 0 = fun l => if l = 7 then some 0 else none := funext (fun l => by rw [Fo_eq, if_pos rfl])
  show ominN 8 (Fo g 0) = _
  rw [e]
  rfl
theorem Ws_0 (g : Nat → Nat → Nat → Option Nat) (ok : Nat → Nat → Bool) : Ws g ok 0 = 1 := by
  have e : Wo g ok 0 = fun l => if l = 7 then 1 else 0 := funext (fun l => by rw [Wo_eq, if_pos rfl])
  show sumN 8 (Wo g ok 0) = _
  rw [e]
  rfl
theorem ominN_more {f : Nat → Option Nat} {n : Nat} : ∀ m, (∀ i, n ≤ i → i < n + m → f i = none) → ominN (n + m) f = ominN n f
  | 0, _ => rfl
  | m + 1, h => by
    show omin (ominN (n + m) f) (f (n + m)) = _
    rw [ominN_more m (fun i h1 h2 => h i h1 (by omega)), h (n + m) (by omega) (by omega)]
    cases ominN n f <;> rfl
theorem sumN_more {f : Nat → Nat} {n : Nat} : ∀ m, (∀ i, n ≤ i → i < n + m → f i = 0) → sumN (n + m) f = sumN n f
  | 0, _ => rfl
  | m + 1, h => by
    show sumN (n + m) f + f (n + m) = _
    rw [sumN_more m (fun i h1 h2 => h i h1 (by omega)), h (n + m) (by omega) (by omega)]
    rfl
theorem Fo_out {g : Nat → Nat → Nat → Option Nat} {s l : Nat} (h0 : s ≠ 0) (h : s.testBit l = false) : Fo g s l = none := by
  rw [Fo_eq, if_neg h0, if_neg (by rw [h]; decide)]
theorem Wo_out {g : Nat → Nat → Nat → Option Nat} {ok : Nat → Nat → Bool} {s l : Nat} (h0 : s ≠ 0) (h : s.testBit l = false) : Wo g ok s l = 0 := by
  rw [Wo_eq, if_neg h0, if_neg (by rw [h]; decide)]
theorem Fm_n {T : tT} {g : Nat → Nat → Nat → Option Nat} {s : Nat} (h6 : tN T ≤ 6) (hs : s ≤ al T) (h0 : s ≠ 0) : Fm g s = ominN (tN T) (Fo g s) := by
  have p := Nat.two_pow_pos (tN T)
  have := ominN_more (f := Fo g s) (n := tN T) (8 - tN T) (fun i h1 _ => Fo_out h0 (tb_big (n := tN T) (by unfold al at hs; omega) h1))
  rw [show tN T + (8 - tN T) = 8 by omega] at this
  exact this
theorem Ws_n {T : tT} {g : Nat → Nat → Nat → Option Nat} {ok : Nat → Nat → Bool} {s : Nat} (h6 : tN T ≤ 6) (hs : s ≤ al T) (h0 : s ≠ 0) : Ws g ok s = sumN (tN T) (Wo g ok s) := by
  have p := Nat.two_pow_pos (tN T)
  have := sumN_more (f := Wo g ok s) (n := tN T) (8 - tN T) (fun i h1 _ => Wo_out h0 (tb_big (n := tN T) (by unfold al at hs; omega) h1))
  rw [show tN T + (8 - tN T) = 8 by omega] at this
  exact this
theorem Fo_ob {g : Nat → Nat → Nat → Option Nat} (hg : ∀ s l k v, g s l k = some v → v < 25) {s l : Nat} (hs : s < 64) : ob (Fo g s l) := fun v e => by have := Fo_lt hg s l v e; omega
theorem ominN_ob {f : Nat → Option Nat} {n : Nat} (h : ∀ i, ob (f i)) : ob (ominN n f) := fun v e => by
  obtain ⟨i, _, e2⟩ := ominN_some _ _ e
  exact h i v e2
theorem Fm_ob {g : Nat → Nat → Nat → Option Nat} (hg : ∀ s l k v, g s l k = some v → v < 25) {s : Nat} (hs : s < 64) : ob (Fm g s) := ominN_ob (fun i => Fo_ob hg hs)
theorem eM_i {a : Option Nat} (h : ob a) : (eM a).toInt = match a with
  | some v => (v : Int)
  | none => -9 := by
  cases a with
  | none => rfl
  | some v => exact nI_toInt (by have := h v rfl; omega)
section PF
variable {G : am_G} {l : Launch} {t : am_T} {I : am_I} {L : am_J} {Q : bm_P}
end PF
