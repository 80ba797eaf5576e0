/-! the reference: corners, lines -/
section MG
variable {G : am_G} {l : Launch} {t : am_T} {I : am_I} {L : am_J} {Q : bm_P}
theorem em_ne {o : Option Nat} (h : ∀ j, o = some j → j < 1000) : (eM o).toInt = -9 ↔ o = none := by
  cases o with
  | none => exact ⟨fun _ => rfl, fun _ => rfl⟩
  | some j =>
    have := h j rfl
    show (nI j).toInt = -9 ↔ _
    rw [nI_toInt (by omega)]
    constructor
    · intro q; omega
    · intro q; cases q
end MG
