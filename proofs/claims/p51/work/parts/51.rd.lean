/-! when the round alone changes -/
def exH : List Nat := [16, 17, 18, 19, 20, 69]
def exJ : List Nat := [23, 24, 25, 26, 27, 29, 30, 31, 32]
theorem cz {T : tT} {x : Int32} (hx : x = nI (tC T)) (hT : tOK T) : (x.toInt = 0 ∧ tE T) ∨ (¬ x.toInt = 0 ∧ tOk T) := by
  have c24 := hT.c24
  rw [hx, nI_toInt (by omega)]
  rcases hT with h | h
  · right
    have := h.1.c2
    exact ⟨by omega, h⟩
  · left
    exact ⟨by rw [h.c0]; rfl, h⟩
theorem nE {T : tT} (h : tOk T) (e : tE T) : False := by
  have := h.1.1
  rw [e.1] at this
  omega
section RD
variable {G : am_G} {l : Launch} {t : am_T} {I : am_I} {L : am_J} {Q : bm_P}
end RD
