/-! pair: fault -/
theorem frN.R {I I' : am_I} (f : frN [3, 4, 5, 6] I I') {x : Nat} (hx : x < 3 ∨ 6 < x) : I' x = I x := f x (by simp; omega)
section PF
variable {G : am_G} {l : Launch} {t : am_T} {I : am_I} {L : am_J} {Q : bm_P}
end PF
