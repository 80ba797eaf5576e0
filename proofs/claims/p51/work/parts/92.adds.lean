/-! the reference adds a step -/
theorem pace_b {T : tT} {f own br p : Nat} : ∀ v, pace T f own br p = some v → v < 1000 := fun v e => by have := pace_lt e; omega
section PA
variable {G : am_G} {l : Launch} {t : am_T} {I : am_I} {L : am_J} {Q : bm_P}
theorem fo_min {o : Option Nat} (bo : ob o) (v : Nat) (hv : v < 1000000) : ((eM o).toInt = -9 → nI v = eM (omin o (some v))) ∧ (¬ (eM o).toInt = -9 → ((nI v).toInt < (eM o).toInt → nI v = eM (omin o (some v))) ∧ ((eM o).toInt ≤ (nI v).toInt → eM o = eM (omin o (some v)))) := by
  cases o with
  | none => exact ⟨fun _ => rfl, fun w => absurd rfl w⟩
  | some x =>
    have := bo x rfl
    have e : (eM (some x)).toInt = (x : Int) := nI_toInt (by omega)
    have e2 : (nI v).toInt = (v : Int) := nI_toInt (by omega)
    rw [e, e2]
    refine ⟨fun w => by omega, fun _ => ⟨fun w => ?_, fun w => ?_⟩⟩
    · show nI v = nI (min x v)
      rw [Nat.min_eq_right (by omega)]
    · show nI x = nI (min x v)
      rw [Nat.min_eq_left (by omega)]
end PA
