/-! pair: orders -/
def exOA : List Nat := [25, 26, 27, 28, 29, 30, 31, 32, 33, 74, 75, 76, 77, 78]
theorem exOA_r : ∀ x, x ∈ exOA → x < 38 ∨ (57 < x ∧ x ≠ 63 ∧ x ≠ 64) := by decide
theorem exOA_g : ∀ x, x ∈ exOA → x ∈ exX ∨ x ∈ [27, 28, 29, 30] := by decide
section PO
variable {G : am_G} {l : Launch} {t : am_T} {I : am_I} {L : am_J} {Q : bm_P}
end PO
